theorem q_0 : (Jvm.Cond.initialized "FourSledgeLaw") ∈ wA := inC1 0 rfl (by decide +kernel)
theorem q_3 : (Jvm.Cond.initialized "java/lang/String") ∈ wA := inC1 3 rfl (by decide +kernel)
theorem q_4 : (Jvm.Cond.initialized "java/lang/StringLatin1") ∈ wA := inC1 4 rfl (by decide +kernel)
theorem q_5 : (Jvm.Cond.initialized "jdk/internal/util/Preconditions") ∈ wA := inC1 5 rfl (by decide +kernel)
theorem q_11 : (Jvm.Cond.initialized "FourSledge$Image") ∈ wA := inC1 11 rfl (by decide +kernel)
theorem q_18 : (Jvm.Cond.initialized "java/util/NoSuchElementException") ∈ wA := inC1 18 rfl (by decide +kernel)
theorem q_24 : (Jvm.Cond.classLink "FourSledgeLaw" (8 : Nat) "FourSledge") ∈ wA := inC1 24 rfl (by decide +kernel)
theorem q_25 : (Jvm.Cond.instantiable "FourSledge" (19 : Nat)) ∈ wA := inC1 25 rfl (by decide +kernel)
theorem q_26 : (Jvm.Cond.methodLink "FourSledgeLaw" (15 : Nat) ({ cls := "FourSledge", name := "<init>", desc := "()V" } : Jvm.MethodName)) ∈ wA := inC1 26 rfl (by decide +kernel)
theorem q_27 : (Jvm.Cond.instanceMethod ({ cls := "FourSledge", name := "<init>", desc := "()V" } : Jvm.MethodName)) ∈ wA := inC1 27 rfl (by decide +kernel)
theorem q_28 : (Jvm.Cond.code ({ cls := "FourSledge", name := "<init>", desc := "()V" } : Jvm.MethodName) prog_1_method_1_code (2 : Nat) (Option.none : Option Jvm.ClassFile.FieldType)) ∈ wA := inC1 28 rfl (by decide +kernel)
theorem q_29 : (Jvm.Cond.methodLink "FourSledge" (3 : Nat) ({ cls := "java/lang/Object", name := "<init>", desc := "()V" } : Jvm.MethodName)) ∈ wA := inC1 29 rfl (by decide +kernel)
theorem q_32 : (Jvm.Cond.classLink "FourSledge" (9 : Nat) "FourSledge$Reader") ∈ wA := inC1 32 rfl (by decide +kernel)
theorem q_33 : (Jvm.Cond.instantiable "FourSledge$Reader" (12 : Nat)) ∈ wA := inC1 33 rfl (by decide +kernel)
theorem q_34 : (Jvm.Cond.methodLink "FourSledge" (11 : Nat) ({ cls := "FourSledge$Reader", name := "<init>", desc := "()V" } : Jvm.MethodName)) ∈ wA := inC1 34 rfl (by decide +kernel)
theorem q_35 : (Jvm.Cond.instanceMethod ({ cls := "FourSledge$Reader", name := "<init>", desc := "()V" } : Jvm.MethodName)) ∈ wA := inC1 35 rfl (by decide +kernel)
theorem q_36 : (Jvm.Cond.code ({ cls := "FourSledge$Reader", name := "<init>", desc := "()V" } : Jvm.MethodName) prog_8_method_1_code (4 : Nat) (Option.none : Option Jvm.ClassFile.FieldType)) ∈ wA := inC1 36 rfl (by decide +kernel)
theorem q_37 : (Jvm.Cond.methodLink "FourSledge$Reader" (3 : Nat) ({ cls := "java/lang/Object", name := "<init>", desc := "()V" } : Jvm.MethodName)) ∈ wA := inC1 37 rfl (by decide +kernel)
theorem q_39 : (Jvm.Cond.methodLink "FourSledge$Reader" (53 : Nat) ({ cls := "java/lang/String", name := "length", desc := "()I" } : Jvm.MethodName)) ∈ wA := inC1 39 rfl (by decide +kernel)
theorem q_40 : (Jvm.Cond.instanceMethod ({ cls := "java/lang/String", name := "length", desc := "()I" } : Jvm.MethodName)) ∈ wA := inC1 40 rfl (by decide +kernel)
theorem q_41 : (Jvm.Cond.selects "java/lang/String" ({ cls := "java/lang/String", name := "length", desc := "()I" } : Jvm.MethodName) ({ cls := "java/lang/String", name := "length", desc := "()I" } : Jvm.MethodName)) ∈ wA := inC1 41 rfl (by decide +kernel)
theorem q_42 : (Jvm.Cond.code ({ cls := "java/lang/String", name := "length", desc := "()I" } : Jvm.MethodName) prog_21_method_54_code (1 : Nat) (Option.some Jvm.ClassFile.FieldType.int)) ∈ wA := inC1 42 rfl (by decide +kernel)
theorem q_43 : (Jvm.Cond.methodLink "java/lang/String" (335 : Nat) ({ cls := "java/lang/String", name := "coder", desc := "()B" } : Jvm.MethodName)) ∈ wA := inC1 43 rfl (by decide +kernel)
theorem q_44 : (Jvm.Cond.instanceMethod ({ cls := "java/lang/String", name := "coder", desc := "()B" } : Jvm.MethodName)) ∈ wA := inC1 44 rfl (by decide +kernel)
theorem q_45 : (Jvm.Cond.selects "java/lang/String" ({ cls := "java/lang/String", name := "coder", desc := "()B" } : Jvm.MethodName) ({ cls := "java/lang/String", name := "coder", desc := "()B" } : Jvm.MethodName)) ∈ wA := inC1 45 rfl (by decide +kernel)
theorem q_46 : (Jvm.Cond.code ({ cls := "java/lang/String", name := "coder", desc := "()B" } : Jvm.MethodName) prog_21_method_152_code (1 : Nat) (Option.some Jvm.ClassFile.FieldType.byte)) ∈ wA := inC1 46 rfl (by decide +kernel)
theorem q_47 : (Jvm.Cond.fieldLink "java/lang/String" (38 : Nat) "java/lang/String" "COMPACT_STRINGS" "Z") ∈ wA := inC1 47 rfl (by decide +kernel)
theorem q_49 : (Jvm.Cond.methodLink "FourSledge$Reader" (58 : Nat) ({ cls := "java/lang/String", name := "charAt", desc := "(I)C" } : Jvm.MethodName)) ∈ wA := inC1 49 rfl (by decide +kernel)
theorem q_50 : (Jvm.Cond.instanceMethod ({ cls := "java/lang/String", name := "charAt", desc := "(I)C" } : Jvm.MethodName)) ∈ wA := inC1 50 rfl (by decide +kernel)
theorem q_51 : (Jvm.Cond.selects "java/lang/String" ({ cls := "java/lang/String", name := "charAt", desc := "(I)C" } : Jvm.MethodName) ({ cls := "java/lang/String", name := "charAt", desc := "(I)C" } : Jvm.MethodName)) ∈ wA := inC1 51 rfl (by decide +kernel)
theorem q_52 : (Jvm.Cond.code ({ cls := "java/lang/String", name := "charAt", desc := "(I)C" } : Jvm.MethodName) prog_21_method_56_code (2 : Nat) (Option.some Jvm.ClassFile.FieldType.char)) ∈ wA := inC1 52 rfl (by decide +kernel)
theorem q_53 : (Jvm.Cond.methodLink "java/lang/String" (492 : Nat) ({ cls := "java/lang/String", name := "isLatin1", desc := "()Z" } : Jvm.MethodName)) ∈ wA := inC1 53 rfl (by decide +kernel)
theorem q_54 : (Jvm.Cond.instanceMethod ({ cls := "java/lang/String", name := "isLatin1", desc := "()Z" } : Jvm.MethodName)) ∈ wA := inC1 54 rfl (by decide +kernel)
theorem q_55 : (Jvm.Cond.selects "java/lang/String" ({ cls := "java/lang/String", name := "isLatin1", desc := "()Z" } : Jvm.MethodName) ({ cls := "java/lang/String", name := "isLatin1", desc := "()Z" } : Jvm.MethodName)) ∈ wA := inC1 55 rfl (by decide +kernel)
theorem q_56 : (Jvm.Cond.code ({ cls := "java/lang/String", name := "isLatin1", desc := "()Z" } : Jvm.MethodName) prog_21_method_154_code (1 : Nat) (Option.some Jvm.ClassFile.FieldType.boolean)) ∈ wA := inC1 56 rfl (by decide +kernel)
theorem q_57 : (Jvm.Cond.methodLink "java/lang/String" (495 : Nat) ({ cls := "java/lang/StringLatin1", name := "charAt", desc := "([BI)C" } : Jvm.MethodName)) ∈ wA := inC1 57 rfl (by decide +kernel)
theorem q_58 : (Jvm.Cond.static ({ cls := "java/lang/StringLatin1", name := "charAt", desc := "([BI)C" } : Jvm.MethodName)) ∈ wA := inC1 58 rfl (by decide +kernel)
theorem q_59 : (Jvm.Cond.code ({ cls := "java/lang/StringLatin1", name := "charAt", desc := "([BI)C" } : Jvm.MethodName) prog_22_method_2_code (2 : Nat) (Option.some Jvm.ClassFile.FieldType.char)) ∈ wA := inC1 59 rfl (by decide +kernel)
theorem q_60 : (Jvm.Cond.methodLink "java/lang/StringLatin1" (9 : Nat) ({ cls := "java/lang/String", name := "checkIndex", desc := "(II)V" } : Jvm.MethodName)) ∈ wA := inC1 60 rfl (by decide +kernel)
theorem q_61 : (Jvm.Cond.static ({ cls := "java/lang/String", name := "checkIndex", desc := "(II)V" } : Jvm.MethodName)) ∈ wA := inC1 61 rfl (by decide +kernel)
theorem q_62 : (Jvm.Cond.code ({ cls := "java/lang/String", name := "checkIndex", desc := "(II)V" } : Jvm.MethodName) prog_21_method_155_code (2 : Nat) (Option.none : Option Jvm.ClassFile.FieldType)) ∈ wA := inC1 62 rfl (by decide +kernel)
theorem q_63 : (Jvm.Cond.fieldLink "java/lang/String" (1053 : Nat) "jdk/internal/util/Preconditions" "SIOOBE_FORMATTER" "Ljava/util/function/BiFunction;") ∈ wA := inC1 63 rfl (by decide +kernel)
theorem q_65 : (Jvm.Cond.methodLink "java/lang/String" (1059 : Nat) ({ cls := "jdk/internal/util/Preconditions", name := "checkIndex", desc := "(IILjava/util/function/BiFunction;)I" } : Jvm.MethodName)) ∈ wA := inC1 65 rfl (by decide +kernel)
theorem q_66 : (Jvm.Cond.static ({ cls := "jdk/internal/util/Preconditions", name := "checkIndex", desc := "(IILjava/util/function/BiFunction;)I" } : Jvm.MethodName)) ∈ wA := inC1 66 rfl (by decide +kernel)
theorem q_67 : (Jvm.Cond.code ({ cls := "jdk/internal/util/Preconditions", name := "checkIndex", desc := "(IILjava/util/function/BiFunction;)I" } : Jvm.MethodName) prog_30_method_11_code (3 : Nat) (Option.some Jvm.ClassFile.FieldType.int)) ∈ wA := inC1 67 rfl (by decide +kernel)
theorem q_137 : (Jvm.Cond.arrayClass Jvm.ClassFile.FieldType.byte) ∈ wA := inC1 137 rfl (by decide +kernel)
theorem q_139 : (Jvm.Cond.classLink "FourSledge" (16 : Nat) "FourSledge$Plan") ∈ wA := inC1 139 rfl (by decide +kernel)
theorem q_140 : (Jvm.Cond.instantiable "FourSledge$Plan" (11 : Nat)) ∈ wA := inC1 140 rfl (by decide +kernel)
theorem q_142 : (Jvm.Cond.instanceMethod ({ cls := "FourSledge$Plan", name := "<init>", desc := "()V" } : Jvm.MethodName)) ∈ wA := inC1 142 rfl (by decide +kernel)
theorem q_143 : (Jvm.Cond.code ({ cls := "FourSledge$Plan", name := "<init>", desc := "()V" } : Jvm.MethodName) prog_7_method_1_code (1 : Nat) (Option.none : Option Jvm.ClassFile.FieldType)) ∈ wA := inC1 143 rfl (by decide +kernel)
theorem q_144 : (Jvm.Cond.methodLink "FourSledge$Plan" (3 : Nat) ({ cls := "java/lang/Object", name := "<init>", desc := "()V" } : Jvm.MethodName)) ∈ wA := inC1 144 rfl (by decide +kernel)
theorem q_199 : (Jvm.Cond.classLink "FourSledge" (29 : Nat) "FourSledge$Ride") ∈ wA := inC1 199 rfl (by decide +kernel)
theorem q_200 : (Jvm.Cond.instantiable "FourSledge$Ride" (18 : Nat)) ∈ wA := inC1 200 rfl (by decide +kernel)
theorem q_202 : (Jvm.Cond.instanceMethod ({ cls := "FourSledge$Ride", name := "<init>", desc := "()V" } : Jvm.MethodName)) ∈ wA := inC1 202 rfl (by decide +kernel)
theorem q_203 : (Jvm.Cond.code ({ cls := "FourSledge$Ride", name := "<init>", desc := "()V" } : Jvm.MethodName) prog_9_method_1_code (1 : Nat) (Option.none : Option Jvm.ClassFile.FieldType)) ∈ wA := inC1 203 rfl (by decide +kernel)
theorem q_204 : (Jvm.Cond.methodLink "FourSledge$Ride" (3 : Nat) ({ cls := "java/lang/Object", name := "<init>", desc := "()V" } : Jvm.MethodName)) ∈ wA := inC1 204 rfl (by decide +kernel)
theorem q_273 : (Jvm.Cond.classLink "FourSledge" (43 : Nat) "FourSledge$Image") ∈ wA := inC2 33 rfl (by decide +kernel)
theorem q_275 : (Jvm.Cond.classLink "FourSledge" (49 : Nat) "FourSledge$Advice") ∈ wA := inC2 35 rfl (by decide +kernel)
theorem q_276 : (Jvm.Cond.instantiable "FourSledge$Advice" (5 : Nat)) ∈ wA := inC2 36 rfl (by decide +kernel)
theorem q_278 : (Jvm.Cond.instanceMethod ({ cls := "FourSledge$Advice", name := "<init>", desc := "()V" } : Jvm.MethodName)) ∈ wA := inC2 38 rfl (by decide +kernel)
theorem q_279 : (Jvm.Cond.code ({ cls := "FourSledge$Advice", name := "<init>", desc := "()V" } : Jvm.MethodName) prog_2_method_1_code (1 : Nat) (Option.none : Option Jvm.ClassFile.FieldType)) ∈ wA := inC2 39 rfl (by decide +kernel)
theorem q_280 : (Jvm.Cond.methodLink "FourSledge$Advice" (3 : Nat) ({ cls := "java/lang/Object", name := "<init>", desc := "()V" } : Jvm.MethodName)) ∈ wA := inC2 40 rfl (by decide +kernel)
theorem q_324 : (Jvm.Cond.fieldLink "FourSledge" (163 : Nat) "FourSledge$Course" "push" "[I") ∈ wA := inC2 84 rfl (by decide +kernel)
theorem q_329 : (Jvm.Cond.fieldLink "FourSledge" (167 : Nat) "FourSledge$Course" "feet" "[I") ∈ wA := inC2 89 rfl (by decide +kernel)
theorem q_334 : (Jvm.Cond.fieldLink "FourSledge" (170 : Nat) "FourSledge$Course" "weight" "[I") ∈ wA := inC2 94 rfl (by decide +kernel)
theorem q_402 : (Jvm.Cond.instantiable "FourSledge$Image" (5 : Nat)) ∈ wA := inC2 162 rfl (by decide +kernel)
theorem q_404 : (Jvm.Cond.instanceMethod ({ cls := "FourSledge$Image", name := "<init>", desc := "()V" } : Jvm.MethodName)) ∈ wA := inC2 164 rfl (by decide +kernel)
theorem q_405 : (Jvm.Cond.code ({ cls := "FourSledge$Image", name := "<init>", desc := "()V" } : Jvm.MethodName) prog_4_method_1_code (1 : Nat) (Option.none : Option Jvm.ClassFile.FieldType)) ∈ wA := inC2 165 rfl (by decide +kernel)
theorem q_406 : (Jvm.Cond.methodLink "FourSledge$Image" (1 : Nat) ({ cls := "java/lang/Object", name := "<init>", desc := "()V" } : Jvm.MethodName)) ∈ wA := inC2 166 rfl (by decide +kernel)
theorem q_407 : (Jvm.Cond.classLink "FourSledge$Image" (7 : Nat) "FourSledge$Plan") ∈ wA := inC2 167 rfl (by decide +kernel)
theorem q_409 : (Jvm.Cond.fieldLink "FourSledge$Image" (10 : Nat) "FourSledge$Image" "plan" "LFourSledge$Plan;") ∈ wA := inC2 169 rfl (by decide +kernel)
theorem q_411 : (Jvm.Cond.fieldLink "FourSledge$Image" (16 : Nat) "FourSledge$Image" "kept" "LFourSledge$Plan;") ∈ wA := inC2 171 rfl (by decide +kernel)
theorem q_413 : (Jvm.Cond.fieldLink "FourSledge$Image" (19 : Nat) "FourSledge$Image" "course" "LFourSledge$Course;") ∈ wA := inC2 173 rfl (by decide +kernel)
theorem q_415 : (Jvm.Cond.fieldLink "FourSledge$Image" (23 : Nat) "FourSledge$Image" "sentence" "LFourSledge$Sentence;") ∈ wA := inC2 175 rfl (by decide +kernel)
theorem q_417 : (Jvm.Cond.fieldLink "FourSledge$Image" (27 : Nat) "FourSledge$Image" "keeping" "Z") ∈ wA := inC2 177 rfl (by decide +kernel)
theorem q_498 : (Jvm.Cond.methodLink "FourSledgeLaw" (19 : Nat) ({ cls := "FourSledge", name := "feed", desc := "(IIIII)I" } : Jvm.MethodName)) ∈ wA := inC3 18 rfl (by decide +kernel)
theorem q_499 : (Jvm.Cond.instanceMethod ({ cls := "FourSledge", name := "feed", desc := "(IIIII)I" } : Jvm.MethodName)) ∈ wA := inC3 19 rfl (by decide +kernel)
theorem q_500 : (Jvm.Cond.selects "FourSledge" ({ cls := "FourSledge", name := "feed", desc := "(IIIII)I" } : Jvm.MethodName) ({ cls := "FourSledge", name := "feed", desc := "(IIIII)I" } : Jvm.MethodName)) ∈ wA := inC3 20 rfl (by decide +kernel)
theorem q_501 : (Jvm.Cond.code ({ cls := "FourSledge", name := "feed", desc := "(IIIII)I" } : Jvm.MethodName) prog_1_method_2_code (6 : Nat) (Option.some Jvm.ClassFile.FieldType.int)) ∈ wA := inC3 21 rfl (by decide +kernel)
theorem q_510 : (Jvm.Cond.methodLink "FourSledgeLaw" (24 : Nat) ({ cls := "FourSledge", name := "end", desc := "(I)Z" } : Jvm.MethodName)) ∈ wA := inC3 30 rfl (by decide +kernel)
theorem q_511 : (Jvm.Cond.instanceMethod ({ cls := "FourSledge", name := "end", desc := "(I)Z" } : Jvm.MethodName)) ∈ wA := inC3 31 rfl (by decide +kernel)
theorem q_512 : (Jvm.Cond.selects "FourSledge" ({ cls := "FourSledge", name := "end", desc := "(I)Z" } : Jvm.MethodName) ({ cls := "FourSledge", name := "end", desc := "(I)Z" } : Jvm.MethodName)) ∈ wA := inC3 32 rfl (by decide +kernel)
theorem q_513 : (Jvm.Cond.code ({ cls := "FourSledge", name := "end", desc := "(I)Z" } : Jvm.MethodName) prog_1_method_3_code (2 : Nat) (Option.some Jvm.ClassFile.FieldType.boolean)) ∈ wA := inC3 33 rfl (by decide +kernel)
theorem q_514 : (Jvm.Cond.methodLink "FourSledgeLaw" (29 : Nat) ({ cls := "FourSledge", name := "course", desc := "()I" } : Jvm.MethodName)) ∈ wA := inC3 34 rfl (by decide +kernel)
theorem q_515 : (Jvm.Cond.instanceMethod ({ cls := "FourSledge", name := "course", desc := "()I" } : Jvm.MethodName)) ∈ wA := inC3 35 rfl (by decide +kernel)
theorem q_516 : (Jvm.Cond.selects "FourSledge" ({ cls := "FourSledge", name := "course", desc := "()I" } : Jvm.MethodName) ({ cls := "FourSledge", name := "course", desc := "()I" } : Jvm.MethodName)) ∈ wA := inC3 36 rfl (by decide +kernel)
theorem q_517 : (Jvm.Cond.code ({ cls := "FourSledge", name := "course", desc := "()I" } : Jvm.MethodName) prog_1_method_4_code (3 : Nat) (Option.some Jvm.ClassFile.FieldType.int)) ∈ wA := inC3 37 rfl (by decide +kernel)
theorem q_614 : (Jvm.Cond.methodLink "FourSledgeLaw" (34 : Nat) ({ cls := "FourSledge", name := "plan", desc := "()I" } : Jvm.MethodName)) ∈ wA := inC3 134 rfl (by decide +kernel)
theorem q_615 : (Jvm.Cond.instanceMethod ({ cls := "FourSledge", name := "plan", desc := "()I" } : Jvm.MethodName)) ∈ wA := inC3 135 rfl (by decide +kernel)
theorem q_616 : (Jvm.Cond.selects "FourSledge" ({ cls := "FourSledge", name := "plan", desc := "()I" } : Jvm.MethodName) ({ cls := "FourSledge", name := "plan", desc := "()I" } : Jvm.MethodName)) ∈ wA := inC3 136 rfl (by decide +kernel)
theorem q_617 : (Jvm.Cond.code ({ cls := "FourSledge", name := "plan", desc := "()I" } : Jvm.MethodName) prog_1_method_5_code (2 : Nat) (Option.some Jvm.ClassFile.FieldType.int)) ∈ wA := inC3 137 rfl (by decide +kernel)
theorem q_678 : (Jvm.Cond.methodLink "FourSledgeLaw" (38 : Nat) ({ cls := "FourSledge", name := "fault", desc := "()I" } : Jvm.MethodName)) ∈ wA := inC3 198 rfl (by decide +kernel)
theorem q_679 : (Jvm.Cond.instanceMethod ({ cls := "FourSledge", name := "fault", desc := "()I" } : Jvm.MethodName)) ∈ wA := inC3 199 rfl (by decide +kernel)
theorem q_680 : (Jvm.Cond.selects "FourSledge" ({ cls := "FourSledge", name := "fault", desc := "()I" } : Jvm.MethodName) ({ cls := "FourSledge", name := "fault", desc := "()I" } : Jvm.MethodName)) ∈ wA := inC3 200 rfl (by decide +kernel)
theorem q_681 : (Jvm.Cond.code ({ cls := "FourSledge", name := "fault", desc := "()I" } : Jvm.MethodName) prog_1_method_6_code (1 : Nat) (Option.some Jvm.ClassFile.FieldType.int)) ∈ wA := inC3 201 rfl (by decide +kernel)
theorem q_682 : (Jvm.Cond.methodLink "FourSledgeLaw" (164 : Nat) ({ cls := "FourSledge", name := "sentence", desc := "()I" } : Jvm.MethodName)) ∈ wA := inC3 202 rfl (by decide +kernel)
theorem q_683 : (Jvm.Cond.instanceMethod ({ cls := "FourSledge", name := "sentence", desc := "()I" } : Jvm.MethodName)) ∈ wA := inC3 203 rfl (by decide +kernel)
theorem q_684 : (Jvm.Cond.selects "FourSledge" ({ cls := "FourSledge", name := "sentence", desc := "()I" } : Jvm.MethodName) ({ cls := "FourSledge", name := "sentence", desc := "()I" } : Jvm.MethodName)) ∈ wA := inC3 204 rfl (by decide +kernel)
theorem q_685 : (Jvm.Cond.code ({ cls := "FourSledge", name := "sentence", desc := "()I" } : Jvm.MethodName) prog_1_method_7_code (3 : Nat) (Option.some Jvm.ClassFile.FieldType.int)) ∈ wA := inC3 205 rfl (by decide +kernel)
theorem q_744 : (Jvm.Cond.methodLink "FourSledgeLaw" (48 : Nat) ({ cls := "FourSledge", name := "bend", desc := "(II)I" } : Jvm.MethodName)) ∈ wA := inC4 24 rfl (by decide +kernel)
theorem q_745 : (Jvm.Cond.instanceMethod ({ cls := "FourSledge", name := "bend", desc := "(II)I" } : Jvm.MethodName)) ∈ wA := inC4 25 rfl (by decide +kernel)
theorem q_746 : (Jvm.Cond.selects "FourSledge" ({ cls := "FourSledge", name := "bend", desc := "(II)I" } : Jvm.MethodName) ({ cls := "FourSledge", name := "bend", desc := "(II)I" } : Jvm.MethodName)) ∈ wA := inC4 26 rfl (by decide +kernel)
theorem q_747 : (Jvm.Cond.code ({ cls := "FourSledge", name := "bend", desc := "(II)I" } : Jvm.MethodName) prog_1_method_10_code (3 : Nat) (Option.some Jvm.ClassFile.FieldType.int)) ∈ wA := inC4 27 rfl (by decide +kernel)
theorem q_748 : (Jvm.Cond.methodLink "FourSledgeLaw" (52 : Nat) ({ cls := "FourSledge", name := "runner", desc := "(II)I" } : Jvm.MethodName)) ∈ wA := inC4 28 rfl (by decide +kernel)
theorem q_749 : (Jvm.Cond.instanceMethod ({ cls := "FourSledge", name := "runner", desc := "(II)I" } : Jvm.MethodName)) ∈ wA := inC4 29 rfl (by decide +kernel)
theorem q_750 : (Jvm.Cond.selects "FourSledge" ({ cls := "FourSledge", name := "runner", desc := "(II)I" } : Jvm.MethodName) ({ cls := "FourSledge", name := "runner", desc := "(II)I" } : Jvm.MethodName)) ∈ wA := inC4 30 rfl (by decide +kernel)
theorem q_751 : (Jvm.Cond.code ({ cls := "FourSledge", name := "runner", desc := "(II)I" } : Jvm.MethodName) prog_1_method_11_code (3 : Nat) (Option.some Jvm.ClassFile.FieldType.int)) ∈ wA := inC4 31 rfl (by decide +kernel)
theorem q_759 : (Jvm.Cond.methodLink "FourSledgeLaw" (180 : Nat) ({ cls := "FourSledge", name := "count", desc := "(I)I" } : Jvm.MethodName)) ∈ wA := inC4 39 rfl (by decide +kernel)
theorem q_760 : (Jvm.Cond.instanceMethod ({ cls := "FourSledge", name := "count", desc := "(I)I" } : Jvm.MethodName)) ∈ wA := inC4 40 rfl (by decide +kernel)
theorem q_761 : (Jvm.Cond.selects "FourSledge" ({ cls := "FourSledge", name := "count", desc := "(I)I" } : Jvm.MethodName) ({ cls := "FourSledge", name := "count", desc := "(I)I" } : Jvm.MethodName)) ∈ wA := inC4 41 rfl (by decide +kernel)
theorem q_762 : (Jvm.Cond.code ({ cls := "FourSledge", name := "count", desc := "(I)I" } : Jvm.MethodName) prog_1_method_12_code (2 : Nat) (Option.some Jvm.ClassFile.FieldType.int)) ∈ wA := inC4 42 rfl (by decide +kernel)
theorem q_763 : (Jvm.Cond.methodLink "FourSledgeLaw" (56 : Nat) ({ cls := "FourSledge", name := "start", desc := "(I)I" } : Jvm.MethodName)) ∈ wA := inC4 43 rfl (by decide +kernel)
theorem q_764 : (Jvm.Cond.instanceMethod ({ cls := "FourSledge", name := "start", desc := "(I)I" } : Jvm.MethodName)) ∈ wA := inC4 44 rfl (by decide +kernel)
theorem q_765 : (Jvm.Cond.selects "FourSledge" ({ cls := "FourSledge", name := "start", desc := "(I)I" } : Jvm.MethodName) ({ cls := "FourSledge", name := "start", desc := "(I)I" } : Jvm.MethodName)) ∈ wA := inC4 45 rfl (by decide +kernel)
theorem q_766 : (Jvm.Cond.code ({ cls := "FourSledge", name := "start", desc := "(I)I" } : Jvm.MethodName) prog_1_method_13_code (2 : Nat) (Option.some Jvm.ClassFile.FieldType.int)) ∈ wA := inC4 46 rfl (by decide +kernel)
theorem q_822 : (Jvm.Cond.methodLink "FourSledgeLaw" (61 : Nat) ({ cls := "FourSledge", name := "pace", desc := "(I)I" } : Jvm.MethodName)) ∈ wA := inC4 102 rfl (by decide +kernel)
theorem q_823 : (Jvm.Cond.instanceMethod ({ cls := "FourSledge", name := "pace", desc := "(I)I" } : Jvm.MethodName)) ∈ wA := inC4 103 rfl (by decide +kernel)
theorem q_824 : (Jvm.Cond.selects "FourSledge" ({ cls := "FourSledge", name := "pace", desc := "(I)I" } : Jvm.MethodName) ({ cls := "FourSledge", name := "pace", desc := "(I)I" } : Jvm.MethodName)) ∈ wA := inC4 104 rfl (by decide +kernel)
theorem q_825 : (Jvm.Cond.code ({ cls := "FourSledge", name := "pace", desc := "(I)I" } : Jvm.MethodName) prog_1_method_14_code (2 : Nat) (Option.some Jvm.ClassFile.FieldType.int)) ∈ wA := inC4 105 rfl (by decide +kernel)
theorem q_826 : (Jvm.Cond.methodLink "FourSledgeLaw" (65 : Nat) ({ cls := "FourSledge", name := "jumps", desc := "(I)I" } : Jvm.MethodName)) ∈ wA := inC4 106 rfl (by decide +kernel)
theorem q_827 : (Jvm.Cond.instanceMethod ({ cls := "FourSledge", name := "jumps", desc := "(I)I" } : Jvm.MethodName)) ∈ wA := inC4 107 rfl (by decide +kernel)
theorem q_828 : (Jvm.Cond.selects "FourSledge" ({ cls := "FourSledge", name := "jumps", desc := "(I)I" } : Jvm.MethodName) ({ cls := "FourSledge", name := "jumps", desc := "(I)I" } : Jvm.MethodName)) ∈ wA := inC4 108 rfl (by decide +kernel)
theorem q_829 : (Jvm.Cond.code ({ cls := "FourSledge", name := "jumps", desc := "(I)I" } : Jvm.MethodName) prog_1_method_15_code (2 : Nat) (Option.some Jvm.ClassFile.FieldType.int)) ∈ wA := inC4 109 rfl (by decide +kernel)
theorem q_830 : (Jvm.Cond.methodLink "FourSledgeLaw" (69 : Nat) ({ cls := "FourSledge", name := "run", desc := "(I)I" } : Jvm.MethodName)) ∈ wA := inC4 110 rfl (by decide +kernel)
theorem q_831 : (Jvm.Cond.instanceMethod ({ cls := "FourSledge", name := "run", desc := "(I)I" } : Jvm.MethodName)) ∈ wA := inC4 111 rfl (by decide +kernel)
theorem q_832 : (Jvm.Cond.selects "FourSledge" ({ cls := "FourSledge", name := "run", desc := "(I)I" } : Jvm.MethodName) ({ cls := "FourSledge", name := "run", desc := "(I)I" } : Jvm.MethodName)) ∈ wA := inC4 112 rfl (by decide +kernel)
theorem q_833 : (Jvm.Cond.code ({ cls := "FourSledge", name := "run", desc := "(I)I" } : Jvm.MethodName) prog_1_method_16_code (2 : Nat) (Option.some Jvm.ClassFile.FieldType.int)) ∈ wA := inC4 113 rfl (by decide +kernel)
theorem q_834 : (Jvm.Cond.methodLink "FourSledgeLaw" (73 : Nat) ({ cls := "FourSledge", name := "behind", desc := "(I)I" } : Jvm.MethodName)) ∈ wA := inC4 114 rfl (by decide +kernel)
theorem q_835 : (Jvm.Cond.instanceMethod ({ cls := "FourSledge", name := "behind", desc := "(I)I" } : Jvm.MethodName)) ∈ wA := inC4 115 rfl (by decide +kernel)
theorem q_836 : (Jvm.Cond.selects "FourSledge" ({ cls := "FourSledge", name := "behind", desc := "(I)I" } : Jvm.MethodName) ({ cls := "FourSledge", name := "behind", desc := "(I)I" } : Jvm.MethodName)) ∈ wA := inC4 116 rfl (by decide +kernel)
theorem q_837 : (Jvm.Cond.code ({ cls := "FourSledge", name := "behind", desc := "(I)I" } : Jvm.MethodName) prog_1_method_17_code (2 : Nat) (Option.some Jvm.ClassFile.FieldType.int)) ∈ wA := inC4 117 rfl (by decide +kernel)
theorem q_838 : (Jvm.Cond.methodLink "FourSledgeLaw" (160 : Nat) ({ cls := "FourSledge", name := "room", desc := "()I" } : Jvm.MethodName)) ∈ wA := inC4 118 rfl (by decide +kernel)
theorem q_839 : (Jvm.Cond.instanceMethod ({ cls := "FourSledge", name := "room", desc := "()I" } : Jvm.MethodName)) ∈ wA := inC4 119 rfl (by decide +kernel)
theorem q_840 : (Jvm.Cond.selects "FourSledge" ({ cls := "FourSledge", name := "room", desc := "()I" } : Jvm.MethodName) ({ cls := "FourSledge", name := "room", desc := "()I" } : Jvm.MethodName)) ∈ wA := inC4 120 rfl (by decide +kernel)
theorem q_841 : (Jvm.Cond.code ({ cls := "FourSledge", name := "room", desc := "()I" } : Jvm.MethodName) prog_1_method_18_code (2 : Nat) (Option.some Jvm.ClassFile.FieldType.int)) ∈ wA := inC4 121 rfl (by decide +kernel)
theorem q_842 : (Jvm.Cond.methodLink "FourSledgeLaw" (77 : Nat) ({ cls := "FourSledge", name := "jump", desc := "(II)Z" } : Jvm.MethodName)) ∈ wA := inC4 122 rfl (by decide +kernel)
theorem q_843 : (Jvm.Cond.instanceMethod ({ cls := "FourSledge", name := "jump", desc := "(II)Z" } : Jvm.MethodName)) ∈ wA := inC4 123 rfl (by decide +kernel)
theorem q_844 : (Jvm.Cond.selects "FourSledge" ({ cls := "FourSledge", name := "jump", desc := "(II)Z" } : Jvm.MethodName) ({ cls := "FourSledge", name := "jump", desc := "(II)Z" } : Jvm.MethodName)) ∈ wA := inC4 124 rfl (by decide +kernel)
theorem q_845 : (Jvm.Cond.code ({ cls := "FourSledge", name := "jump", desc := "(II)Z" } : Jvm.MethodName) prog_1_method_19_code (3 : Nat) (Option.some Jvm.ClassFile.FieldType.boolean)) ∈ wA := inC4 125 rfl (by decide +kernel)
theorem q_850 : (Jvm.Cond.methodLink "FourSledgeLaw" (82 : Nat) ({ cls := "FourSledge", name := "high", desc := "(II)Z" } : Jvm.MethodName)) ∈ wA := inC4 130 rfl (by decide +kernel)
theorem q_851 : (Jvm.Cond.instanceMethod ({ cls := "FourSledge", name := "high", desc := "(II)Z" } : Jvm.MethodName)) ∈ wA := inC4 131 rfl (by decide +kernel)
theorem q_852 : (Jvm.Cond.selects "FourSledge" ({ cls := "FourSledge", name := "high", desc := "(II)Z" } : Jvm.MethodName) ({ cls := "FourSledge", name := "high", desc := "(II)Z" } : Jvm.MethodName)) ∈ wA := inC4 132 rfl (by decide +kernel)
theorem q_853 : (Jvm.Cond.code ({ cls := "FourSledge", name := "high", desc := "(II)Z" } : Jvm.MethodName) prog_1_method_20_code (3 : Nat) (Option.some Jvm.ClassFile.FieldType.boolean)) ∈ wA := inC4 133 rfl (by decide +kernel)
theorem q_854 : (Jvm.Cond.methodLink "FourSledgeLaw" (86 : Nat) ({ cls := "FourSledge", name := "set", desc := "(II)Z" } : Jvm.MethodName)) ∈ wA := inC4 134 rfl (by decide +kernel)
theorem q_855 : (Jvm.Cond.instanceMethod ({ cls := "FourSledge", name := "set", desc := "(II)Z" } : Jvm.MethodName)) ∈ wA := inC4 135 rfl (by decide +kernel)
theorem q_856 : (Jvm.Cond.selects "FourSledge" ({ cls := "FourSledge", name := "set", desc := "(II)Z" } : Jvm.MethodName) ({ cls := "FourSledge", name := "set", desc := "(II)Z" } : Jvm.MethodName)) ∈ wA := inC4 136 rfl (by decide +kernel)
theorem q_857 : (Jvm.Cond.code ({ cls := "FourSledge", name := "set", desc := "(II)Z" } : Jvm.MethodName) prog_1_method_21_code (3 : Nat) (Option.some Jvm.ClassFile.FieldType.boolean)) ∈ wA := inC4 137 rfl (by decide +kernel)
theorem q_873 : (Jvm.Cond.methodLink "FourSledgeLaw" (90 : Nat) ({ cls := "FourSledge", name := "swap", desc := "(II)Z" } : Jvm.MethodName)) ∈ wA := inC4 153 rfl (by decide +kernel)
theorem q_874 : (Jvm.Cond.instanceMethod ({ cls := "FourSledge", name := "swap", desc := "(II)Z" } : Jvm.MethodName)) ∈ wA := inC4 154 rfl (by decide +kernel)
theorem q_875 : (Jvm.Cond.selects "FourSledge" ({ cls := "FourSledge", name := "swap", desc := "(II)Z" } : Jvm.MethodName) ({ cls := "FourSledge", name := "swap", desc := "(II)Z" } : Jvm.MethodName)) ∈ wA := inC4 155 rfl (by decide +kernel)
theorem q_876 : (Jvm.Cond.code ({ cls := "FourSledge", name := "swap", desc := "(II)Z" } : Jvm.MethodName) prog_1_method_25_code (5 : Nat) (Option.some Jvm.ClassFile.FieldType.boolean)) ∈ wA := inC4 156 rfl (by decide +kernel)
theorem q_877 : (Jvm.Cond.methodLink "FourSledgeLaw" (94 : Nat) ({ cls := "FourSledge", name := "undo", desc := "()I" } : Jvm.MethodName)) ∈ wA := inC4 157 rfl (by decide +kernel)
theorem q_878 : (Jvm.Cond.instanceMethod ({ cls := "FourSledge", name := "undo", desc := "()I" } : Jvm.MethodName)) ∈ wA := inC4 158 rfl (by decide +kernel)
theorem q_879 : (Jvm.Cond.selects "FourSledge" ({ cls := "FourSledge", name := "undo", desc := "()I" } : Jvm.MethodName) ({ cls := "FourSledge", name := "undo", desc := "()I" } : Jvm.MethodName)) ∈ wA := inC4 159 rfl (by decide +kernel)
theorem q_880 : (Jvm.Cond.code ({ cls := "FourSledge", name := "undo", desc := "()I" } : Jvm.MethodName) prog_1_method_26_code (1 : Nat) (Option.some Jvm.ClassFile.FieldType.int)) ∈ wA := inC4 160 rfl (by decide +kernel)
theorem q_881 : (Jvm.Cond.methodLink "FourSledgeLaw" (114 : Nat) ({ cls := "FourSledge", name := "take", desc := "(I)Z" } : Jvm.MethodName)) ∈ wA := inC4 161 rfl (by decide +kernel)
theorem q_882 : (Jvm.Cond.instanceMethod ({ cls := "FourSledge", name := "take", desc := "(I)Z" } : Jvm.MethodName)) ∈ wA := inC4 162 rfl (by decide +kernel)
theorem q_883 : (Jvm.Cond.selects "FourSledge" ({ cls := "FourSledge", name := "take", desc := "(I)Z" } : Jvm.MethodName) ({ cls := "FourSledge", name := "take", desc := "(I)Z" } : Jvm.MethodName)) ∈ wA := inC4 163 rfl (by decide +kernel)
theorem q_884 : (Jvm.Cond.code ({ cls := "FourSledge", name := "take", desc := "(I)Z" } : Jvm.MethodName) prog_1_method_27_code (2 : Nat) (Option.some Jvm.ClassFile.FieldType.boolean)) ∈ wA := inC4 164 rfl (by decide +kernel)
theorem q_890 : (Jvm.Cond.methodLink "FourSledgeLaw" (98 : Nat) ({ cls := "FourSledge", name := "best", desc := "()I" } : Jvm.MethodName)) ∈ wA := inC4 170 rfl (by decide +kernel)
theorem q_891 : (Jvm.Cond.instanceMethod ({ cls := "FourSledge", name := "best", desc := "()I" } : Jvm.MethodName)) ∈ wA := inC4 171 rfl (by decide +kernel)
theorem q_892 : (Jvm.Cond.selects "FourSledge" ({ cls := "FourSledge", name := "best", desc := "()I" } : Jvm.MethodName) ({ cls := "FourSledge", name := "best", desc := "()I" } : Jvm.MethodName)) ∈ wA := inC4 172 rfl (by decide +kernel)
theorem q_893 : (Jvm.Cond.code ({ cls := "FourSledge", name := "best", desc := "()I" } : Jvm.MethodName) prog_1_method_30_code (3 : Nat) (Option.some Jvm.ClassFile.FieldType.int)) ∈ wA := inC4 173 rfl (by decide +kernel)
theorem q_989 : (Jvm.Cond.methodLink "FourSledgeLaw" (102 : Nat) ({ cls := "FourSledge", name := "when", desc := "(I)I" } : Jvm.MethodName)) ∈ wA := inC5 29 rfl (by decide +kernel)
theorem q_990 : (Jvm.Cond.instanceMethod ({ cls := "FourSledge", name := "when", desc := "(I)I" } : Jvm.MethodName)) ∈ wA := inC5 30 rfl (by decide +kernel)
theorem q_991 : (Jvm.Cond.selects "FourSledge" ({ cls := "FourSledge", name := "when", desc := "(I)I" } : Jvm.MethodName) ({ cls := "FourSledge", name := "when", desc := "(I)I" } : Jvm.MethodName)) ∈ wA := inC5 31 rfl (by decide +kernel)
theorem q_992 : (Jvm.Cond.code ({ cls := "FourSledge", name := "when", desc := "(I)I" } : Jvm.MethodName) prog_1_method_31_code (2 : Nat) (Option.some Jvm.ClassFile.FieldType.int)) ∈ wA := inC5 32 rfl (by decide +kernel)
theorem q_997 : (Jvm.Cond.methodLink "FourSledgeLaw" (106 : Nat) ({ cls := "FourSledge", name := "line", desc := "()I" } : Jvm.MethodName)) ∈ wA := inC5 37 rfl (by decide +kernel)
theorem q_998 : (Jvm.Cond.instanceMethod ({ cls := "FourSledge", name := "line", desc := "()I" } : Jvm.MethodName)) ∈ wA := inC5 38 rfl (by decide +kernel)
theorem q_999 : (Jvm.Cond.selects "FourSledge" ({ cls := "FourSledge", name := "line", desc := "()I" } : Jvm.MethodName) ({ cls := "FourSledge", name := "line", desc := "()I" } : Jvm.MethodName)) ∈ wA := inC5 39 rfl (by decide +kernel)
theorem q_1000 : (Jvm.Cond.code ({ cls := "FourSledge", name := "line", desc := "()I" } : Jvm.MethodName) prog_1_method_32_code (2 : Nat) (Option.some Jvm.ClassFile.FieldType.int)) ∈ wA := inC5 40 rfl (by decide +kernel)
theorem q_1041 : (Jvm.Cond.methodLink "FourSledgeLaw" (110 : Nat) ({ cls := "FourSledge", name := "height", desc := "(I)I" } : Jvm.MethodName)) ∈ wA := inC5 81 rfl (by decide +kernel)
theorem q_1042 : (Jvm.Cond.instanceMethod ({ cls := "FourSledge", name := "height", desc := "(I)I" } : Jvm.MethodName)) ∈ wA := inC5 82 rfl (by decide +kernel)
theorem q_1043 : (Jvm.Cond.selects "FourSledge" ({ cls := "FourSledge", name := "height", desc := "(I)I" } : Jvm.MethodName) ({ cls := "FourSledge", name := "height", desc := "(I)I" } : Jvm.MethodName)) ∈ wA := inC5 83 rfl (by decide +kernel)
theorem q_1044 : (Jvm.Cond.code ({ cls := "FourSledge", name := "height", desc := "(I)I" } : Jvm.MethodName) prog_1_method_33_code (2 : Nat) (Option.some Jvm.ClassFile.FieldType.int)) ∈ wA := inC5 84 rfl (by decide +kernel)
theorem q_1045 : (Jvm.Cond.methodLink "FourSledgeLaw" (118 : Nat) ({ cls := "FourSledge", name := "four", desc := "()I" } : Jvm.MethodName)) ∈ wA := inC5 85 rfl (by decide +kernel)
theorem q_1046 : (Jvm.Cond.instanceMethod ({ cls := "FourSledge", name := "four", desc := "()I" } : Jvm.MethodName)) ∈ wA := inC5 86 rfl (by decide +kernel)
theorem q_1047 : (Jvm.Cond.selects "FourSledge" ({ cls := "FourSledge", name := "four", desc := "()I" } : Jvm.MethodName) ({ cls := "FourSledge", name := "four", desc := "()I" } : Jvm.MethodName)) ∈ wA := inC5 87 rfl (by decide +kernel)
theorem q_1048 : (Jvm.Cond.code ({ cls := "FourSledge", name := "four", desc := "()I" } : Jvm.MethodName) prog_1_method_34_code (9 : Nat) (Option.some Jvm.ClassFile.FieldType.int)) ∈ wA := inC5 88 rfl (by decide +kernel)
theorem q_1053 : (Jvm.Cond.methodLink "FourSledgeLaw" (122 : Nat) ({ cls := "FourSledge", name := "kilo", desc := "(I)I" } : Jvm.MethodName)) ∈ wA := inC5 93 rfl (by decide +kernel)
theorem q_1054 : (Jvm.Cond.instanceMethod ({ cls := "FourSledge", name := "kilo", desc := "(I)I" } : Jvm.MethodName)) ∈ wA := inC5 94 rfl (by decide +kernel)
theorem q_1055 : (Jvm.Cond.selects "FourSledge" ({ cls := "FourSledge", name := "kilo", desc := "(I)I" } : Jvm.MethodName) ({ cls := "FourSledge", name := "kilo", desc := "(I)I" } : Jvm.MethodName)) ∈ wA := inC5 95 rfl (by decide +kernel)
theorem q_1056 : (Jvm.Cond.code ({ cls := "FourSledge", name := "kilo", desc := "(I)I" } : Jvm.MethodName) prog_1_method_36_code (2 : Nat) (Option.some Jvm.ClassFile.FieldType.int)) ∈ wA := inC5 96 rfl (by decide +kernel)
theorem q_1061 : (Jvm.Cond.methodLink "FourSledgeLaw" (126 : Nat) ({ cls := "FourSledge", name := "runners", desc := "()I" } : Jvm.MethodName)) ∈ wA := inC5 101 rfl (by decide +kernel)
theorem q_1062 : (Jvm.Cond.instanceMethod ({ cls := "FourSledge", name := "runners", desc := "()I" } : Jvm.MethodName)) ∈ wA := inC5 102 rfl (by decide +kernel)
theorem q_1063 : (Jvm.Cond.selects "FourSledge" ({ cls := "FourSledge", name := "runners", desc := "()I" } : Jvm.MethodName) ({ cls := "FourSledge", name := "runners", desc := "()I" } : Jvm.MethodName)) ∈ wA := inC5 103 rfl (by decide +kernel)
theorem q_1064 : (Jvm.Cond.code ({ cls := "FourSledge", name := "runners", desc := "()I" } : Jvm.MethodName) prog_1_method_37_code (5 : Nat) (Option.some Jvm.ClassFile.FieldType.int)) ∈ wA := inC5 104 rfl (by decide +kernel)
theorem q_1065 : (Jvm.Cond.methodLink "FourSledgeLaw" (130 : Nat) ({ cls := "FourSledge", name := "runs", desc := "()I" } : Jvm.MethodName)) ∈ wA := inC5 105 rfl (by decide +kernel)
theorem q_1066 : (Jvm.Cond.instanceMethod ({ cls := "FourSledge", name := "runs", desc := "()I" } : Jvm.MethodName)) ∈ wA := inC5 106 rfl (by decide +kernel)
theorem q_1067 : (Jvm.Cond.selects "FourSledge" ({ cls := "FourSledge", name := "runs", desc := "()I" } : Jvm.MethodName) ({ cls := "FourSledge", name := "runs", desc := "()I" } : Jvm.MethodName)) ∈ wA := inC5 107 rfl (by decide +kernel)
theorem q_1068 : (Jvm.Cond.code ({ cls := "FourSledge", name := "runs", desc := "()I" } : Jvm.MethodName) prog_1_method_38_code (6 : Nat) (Option.some Jvm.ClassFile.FieldType.int)) ∈ wA := inC5 108 rfl (by decide +kernel)
theorem q_1077 : (Jvm.Cond.methodLink "FourSledgeLaw" (134 : Nat) ({ cls := "FourSledge", name := "worth", desc := "(II)I" } : Jvm.MethodName)) ∈ wA := inC5 117 rfl (by decide +kernel)
theorem q_1078 : (Jvm.Cond.instanceMethod ({ cls := "FourSledge", name := "worth", desc := "(II)I" } : Jvm.MethodName)) ∈ wA := inC5 118 rfl (by decide +kernel)
theorem q_1079 : (Jvm.Cond.selects "FourSledge" ({ cls := "FourSledge", name := "worth", desc := "(II)I" } : Jvm.MethodName) ({ cls := "FourSledge", name := "worth", desc := "(II)I" } : Jvm.MethodName)) ∈ wA := inC5 119 rfl (by decide +kernel)
theorem q_1080 : (Jvm.Cond.code ({ cls := "FourSledge", name := "worth", desc := "(II)I" } : Jvm.MethodName) prog_1_method_39_code (3 : Nat) (Option.some Jvm.ClassFile.FieldType.int)) ∈ wA := inC5 120 rfl (by decide +kernel)
theorem q_1081 : (Jvm.Cond.methodLink "FourSledgeLaw" (138 : Nat) ({ cls := "FourSledge", name := "keep", desc := "()Z" } : Jvm.MethodName)) ∈ wA := inC5 121 rfl (by decide +kernel)
theorem q_1082 : (Jvm.Cond.instanceMethod ({ cls := "FourSledge", name := "keep", desc := "()Z" } : Jvm.MethodName)) ∈ wA := inC5 122 rfl (by decide +kernel)
theorem q_1083 : (Jvm.Cond.selects "FourSledge" ({ cls := "FourSledge", name := "keep", desc := "()Z" } : Jvm.MethodName) ({ cls := "FourSledge", name := "keep", desc := "()Z" } : Jvm.MethodName)) ∈ wA := inC5 123 rfl (by decide +kernel)
theorem q_1084 : (Jvm.Cond.code ({ cls := "FourSledge", name := "keep", desc := "()Z" } : Jvm.MethodName) prog_1_method_41_code (1 : Nat) (Option.some Jvm.ClassFile.FieldType.boolean)) ∈ wA := inC5 124 rfl (by decide +kernel)
theorem q_1085 : (Jvm.Cond.methodLink "FourSledgeLaw" (143 : Nat) ({ cls := "FourSledge", name := "lost", desc := "(I)I" } : Jvm.MethodName)) ∈ wA := inC5 125 rfl (by decide +kernel)
theorem q_1086 : (Jvm.Cond.instanceMethod ({ cls := "FourSledge", name := "lost", desc := "(I)I" } : Jvm.MethodName)) ∈ wA := inC5 126 rfl (by decide +kernel)
theorem q_1087 : (Jvm.Cond.selects "FourSledge" ({ cls := "FourSledge", name := "lost", desc := "(I)I" } : Jvm.MethodName) ({ cls := "FourSledge", name := "lost", desc := "(I)I" } : Jvm.MethodName)) ∈ wA := inC5 127 rfl (by decide +kernel)
theorem q_1088 : (Jvm.Cond.code ({ cls := "FourSledge", name := "lost", desc := "(I)I" } : Jvm.MethodName) prog_1_method_42_code (10 : Nat) (Option.some Jvm.ClassFile.FieldType.int)) ∈ wA := inC5 128 rfl (by decide +kernel)
theorem q_1090 : (Jvm.Cond.methodLink "FourSledgeLaw" (147 : Nat) ({ cls := "FourSledge", name := "touch", desc := "(II)I" } : Jvm.MethodName)) ∈ wA := inC5 130 rfl (by decide +kernel)
theorem q_1091 : (Jvm.Cond.instanceMethod ({ cls := "FourSledge", name := "touch", desc := "(II)I" } : Jvm.MethodName)) ∈ wA := inC5 131 rfl (by decide +kernel)
theorem q_1092 : (Jvm.Cond.selects "FourSledge" ({ cls := "FourSledge", name := "touch", desc := "(II)I" } : Jvm.MethodName) ({ cls := "FourSledge", name := "touch", desc := "(II)I" } : Jvm.MethodName)) ∈ wA := inC5 132 rfl (by decide +kernel)
theorem q_1093 : (Jvm.Cond.code ({ cls := "FourSledge", name := "touch", desc := "(II)I" } : Jvm.MethodName) prog_1_method_43_code (3 : Nat) (Option.some Jvm.ClassFile.FieldType.int)) ∈ wA := inC5 133 rfl (by decide +kernel)
theorem q_1099 : (Jvm.Cond.methodLink "FourSledgeLaw" (151 : Nat) ({ cls := "FourSledge", name := "drawn", desc := "(I)I" } : Jvm.MethodName)) ∈ wA := inC5 139 rfl (by decide +kernel)
theorem q_1100 : (Jvm.Cond.instanceMethod ({ cls := "FourSledge", name := "drawn", desc := "(I)I" } : Jvm.MethodName)) ∈ wA := inC5 140 rfl (by decide +kernel)
theorem q_1101 : (Jvm.Cond.selects "FourSledge" ({ cls := "FourSledge", name := "drawn", desc := "(I)I" } : Jvm.MethodName) ({ cls := "FourSledge", name := "drawn", desc := "(I)I" } : Jvm.MethodName)) ∈ wA := inC5 141 rfl (by decide +kernel)
theorem q_1102 : (Jvm.Cond.code ({ cls := "FourSledge", name := "drawn", desc := "(I)I" } : Jvm.MethodName) prog_1_method_46_code (2 : Nat) (Option.some Jvm.ClassFile.FieldType.int)) ∈ wA := inC5 142 rfl (by decide +kernel)
theorem q_1107 : (Jvm.Cond.methodLink "FourSledgeLaw" (155 : Nat) ({ cls := "FourSledge", name := "odds", desc := "(III)I" } : Jvm.MethodName)) ∈ wA := inC5 147 rfl (by decide +kernel)
theorem q_1108 : (Jvm.Cond.instanceMethod ({ cls := "FourSledge", name := "odds", desc := "(III)I" } : Jvm.MethodName)) ∈ wA := inC5 148 rfl (by decide +kernel)
theorem q_1109 : (Jvm.Cond.selects "FourSledge" ({ cls := "FourSledge", name := "odds", desc := "(III)I" } : Jvm.MethodName) ({ cls := "FourSledge", name := "odds", desc := "(III)I" } : Jvm.MethodName)) ∈ wA := inC5 149 rfl (by decide +kernel)
theorem q_1110 : (Jvm.Cond.code ({ cls := "FourSledge", name := "odds", desc := "(III)I" } : Jvm.MethodName) prog_1_method_47_code (7 : Nat) (Option.some Jvm.ClassFile.FieldType.int)) ∈ wA := inC5 150 rfl (by decide +kernel)
theorem q_1111 : (Jvm.Cond.methodLink "FourSledgeLaw" (168 : Nat) ({ cls := "FourSledge", name := "said", desc := "(I)I" } : Jvm.MethodName)) ∈ wA := inC5 151 rfl (by decide +kernel)
theorem q_1112 : (Jvm.Cond.instanceMethod ({ cls := "FourSledge", name := "said", desc := "(I)I" } : Jvm.MethodName)) ∈ wA := inC5 152 rfl (by decide +kernel)
theorem q_1113 : (Jvm.Cond.selects "FourSledge" ({ cls := "FourSledge", name := "said", desc := "(I)I" } : Jvm.MethodName) ({ cls := "FourSledge", name := "said", desc := "(I)I" } : Jvm.MethodName)) ∈ wA := inC5 153 rfl (by decide +kernel)
theorem q_1114 : (Jvm.Cond.code ({ cls := "FourSledge", name := "said", desc := "(I)I" } : Jvm.MethodName) prog_1_method_48_code (5 : Nat) (Option.some Jvm.ClassFile.FieldType.int)) ∈ wA := inC5 154 rfl (by decide +kernel)
theorem q_1132 : (Jvm.Cond.methodLink "FourSledgeLaw" (172 : Nat) ({ cls := "FourSledge", name := "image", desc := "(I)Z" } : Jvm.MethodName)) ∈ wA := inC5 172 rfl (by decide +kernel)
theorem q_1133 : (Jvm.Cond.instanceMethod ({ cls := "FourSledge", name := "image", desc := "(I)Z" } : Jvm.MethodName)) ∈ wA := inC5 173 rfl (by decide +kernel)
theorem q_1134 : (Jvm.Cond.selects "FourSledge" ({ cls := "FourSledge", name := "image", desc := "(I)Z" } : Jvm.MethodName) ({ cls := "FourSledge", name := "image", desc := "(I)Z" } : Jvm.MethodName)) ∈ wA := inC5 174 rfl (by decide +kernel)
theorem q_1135 : (Jvm.Cond.code ({ cls := "FourSledge", name := "image", desc := "(I)Z" } : Jvm.MethodName) prog_1_method_50_code (3 : Nat) (Option.some Jvm.ClassFile.FieldType.boolean)) ∈ wA := inC5 175 rfl (by decide +kernel)
theorem q_1136 : (Jvm.Cond.methodLink "FourSledgeLaw" (176 : Nat) ({ cls := "FourSledge", name := "restore", desc := "(I)Z" } : Jvm.MethodName)) ∈ wA := inC5 176 rfl (by decide +kernel)
theorem q_1137 : (Jvm.Cond.instanceMethod ({ cls := "FourSledge", name := "restore", desc := "(I)Z" } : Jvm.MethodName)) ∈ wA := inC5 177 rfl (by decide +kernel)
theorem q_1138 : (Jvm.Cond.selects "FourSledge" ({ cls := "FourSledge", name := "restore", desc := "(I)Z" } : Jvm.MethodName) ({ cls := "FourSledge", name := "restore", desc := "(I)Z" } : Jvm.MethodName)) ∈ wA := inC5 178 rfl (by decide +kernel)
theorem q_1139 : (Jvm.Cond.code ({ cls := "FourSledge", name := "restore", desc := "(I)Z" } : Jvm.MethodName) prog_1_method_51_code (3 : Nat) (Option.some Jvm.ClassFile.FieldType.boolean)) ∈ wA := inC5 179 rfl (by decide +kernel)
theorem q_1140 : (Jvm.Cond.methodLink "FourSledgeLaw" (42 : Nat) ({ cls := "FourSledgeLaw", name := "man", desc := "(LFourSledge;II[J)I" } : Jvm.MethodName)) ∈ wA := inC5 180 rfl (by decide +kernel)
theorem q_1141 : (Jvm.Cond.static ({ cls := "FourSledgeLaw", name := "man", desc := "(LFourSledge;II[J)I" } : Jvm.MethodName)) ∈ wA := inC5 181 rfl (by decide +kernel)
theorem q_1143 : (Jvm.Cond.classLink "FourSledgeLaw" (13 : Nat) "java/util/NoSuchElementException") ∈ wA := inC5 183 rfl (by decide +kernel)
theorem q_1144 : (Jvm.Cond.methodLink "FourSledgeLaw" (7 : Nat) ({ cls := "FourSledge", name := "man", desc := "(II)I" } : Jvm.MethodName)) ∈ wA := inC5 184 rfl (by decide +kernel)
theorem q_1145 : (Jvm.Cond.instanceMethod ({ cls := "FourSledge", name := "man", desc := "(II)I" } : Jvm.MethodName)) ∈ wA := inC5 185 rfl (by decide +kernel)
theorem q_1146 : (Jvm.Cond.selects "FourSledge" ({ cls := "FourSledge", name := "man", desc := "(II)I" } : Jvm.MethodName) ({ cls := "FourSledge", name := "man", desc := "(II)I" } : Jvm.MethodName)) ∈ wA := inC5 186 rfl (by decide +kernel)
theorem q_1147 : (Jvm.Cond.code ({ cls := "FourSledge", name := "man", desc := "(II)I" } : Jvm.MethodName) prog_1_method_9_code (4 : Nat) (Option.some Jvm.ClassFile.FieldType.int)) ∈ wA := inC5 187 rfl (by decide +kernel)
theorem q_1148 : (Jvm.Cond.classLink "FourSledge" (156 : Nat) "java/util/NoSuchElementException") ∈ wA := inC5 188 rfl (by decide +kernel)
theorem q_1213 : (Jvm.Cond.methodLink "FourSledge" (173 : Nat) ({ cls := "FourSledge$Plan", name := "placeOf", desc := "(I)I" } : Jvm.MethodName)) ∈ wA := inC6 13 rfl (by decide +kernel)
theorem q_1214 : (Jvm.Cond.methodLink "FourSledgeLaw" (23 : Nat) ({ cls := "FourSledgeModel", name := "feed", desc := "(IIIII)I" } : Jvm.MethodName)) ∈ wA := inC6 14 rfl (by decide +kernel)
theorem q_1215 : (Jvm.Cond.instanceMethod ({ cls := "FourSledgeModel", name := "feed", desc := "(IIIII)I" } : Jvm.MethodName)) ∈ wA := inC6 15 rfl (by decide +kernel)
theorem q_1216 : (Jvm.Cond.selects "FourSledgeModel" ({ cls := "FourSledgeModel", name := "feed", desc := "(IIIII)I" } : Jvm.MethodName) ({ cls := "FourSledgeModel", name := "feed", desc := "(IIIII)I" } : Jvm.MethodName)) ∈ wA := inC6 16 rfl (by decide +kernel)
theorem q_1217 : (Jvm.Cond.code ({ cls := "FourSledgeModel", name := "feed", desc := "(IIIII)I" } : Jvm.MethodName) prog_12_method_3_code (6 : Nat) (Option.some Jvm.ClassFile.FieldType.int)) ∈ wA := inC6 17 rfl (by decide +kernel)
theorem q_1221 : (Jvm.Cond.instantiable "FourSledgeModel" (67 : Nat)) ∈ wA := inC6 21 rfl (by decide +kernel)
theorem q_1223 : (Jvm.Cond.methodLink "FourSledgeLaw" (28 : Nat) ({ cls := "FourSledgeModel", name := "end", desc := "(I)Z" } : Jvm.MethodName)) ∈ wA := inC6 23 rfl (by decide +kernel)
theorem q_1224 : (Jvm.Cond.instanceMethod ({ cls := "FourSledgeModel", name := "end", desc := "(I)Z" } : Jvm.MethodName)) ∈ wA := inC6 24 rfl (by decide +kernel)
theorem q_1225 : (Jvm.Cond.selects "FourSledgeModel" ({ cls := "FourSledgeModel", name := "end", desc := "(I)Z" } : Jvm.MethodName) ({ cls := "FourSledgeModel", name := "end", desc := "(I)Z" } : Jvm.MethodName)) ∈ wA := inC6 25 rfl (by decide +kernel)
theorem q_1226 : (Jvm.Cond.code ({ cls := "FourSledgeModel", name := "end", desc := "(I)Z" } : Jvm.MethodName) prog_12_method_5_code (2 : Nat) (Option.some Jvm.ClassFile.FieldType.boolean)) ∈ wA := inC6 26 rfl (by decide +kernel)
theorem q_1227 : (Jvm.Cond.classLink "FourSledgeLaw" (16 : Nat) "FourSledgeModel") ∈ wA := inC6 27 rfl (by decide +kernel)
theorem q_1228 : (Jvm.Cond.methodLink "FourSledgeLaw" (18 : Nat) ({ cls := "FourSledgeModel", name := "<init>", desc := "()V" } : Jvm.MethodName)) ∈ wA := inC6 28 rfl (by decide +kernel)
theorem q_1229 : (Jvm.Cond.instanceMethod ({ cls := "FourSledgeModel", name := "<init>", desc := "()V" } : Jvm.MethodName)) ∈ wA := inC6 29 rfl (by decide +kernel)
theorem q_1230 : (Jvm.Cond.code ({ cls := "FourSledgeModel", name := "<init>", desc := "()V" } : Jvm.MethodName) prog_12_method_13_code (2 : Nat) (Option.none : Option Jvm.ClassFile.FieldType)) ∈ wA := inC6 30 rfl (by decide +kernel)
theorem q_1231 : (Jvm.Cond.methodLink "FourSledgeModel" (31 : Nat) ({ cls := "java/lang/Object", name := "<init>", desc := "()V" } : Jvm.MethodName)) ∈ wA := inC6 31 rfl (by decide +kernel)
theorem q_1232 : (Jvm.Cond.constant "FourSledgeModel" (75 : Nat) (316192 : Int32)) ∈ wA := inC6 32 rfl (by decide +kernel)
theorem q_1233 : (Jvm.Cond.constant "FourSledgeModel" (88 : Nat) (38560 : Int32)) ∈ wA := inC6 33 rfl (by decide +kernel)
theorem q_1463 : (Jvm.Cond.arrayClass Jvm.ClassFile.FieldType.boolean) ∈ wA := inC7 23 rfl (by decide +kernel)
theorem q_1464 : (Jvm.Cond.methodLink "FourSledgeLaw" (33 : Nat) ({ cls := "FourSledgeModel", name := "course", desc := "()I" } : Jvm.MethodName)) ∈ wA := inC7 24 rfl (by decide +kernel)
theorem q_1465 : (Jvm.Cond.instanceMethod ({ cls := "FourSledgeModel", name := "course", desc := "()I" } : Jvm.MethodName)) ∈ wA := inC7 25 rfl (by decide +kernel)
theorem q_1466 : (Jvm.Cond.selects "FourSledgeModel" ({ cls := "FourSledgeModel", name := "course", desc := "()I" } : Jvm.MethodName) ({ cls := "FourSledgeModel", name := "course", desc := "()I" } : Jvm.MethodName)) ∈ wA := inC7 26 rfl (by decide +kernel)
theorem q_1467 : (Jvm.Cond.code ({ cls := "FourSledgeModel", name := "course", desc := "()I" } : Jvm.MethodName) prog_12_method_30_code (2 : Nat) (Option.some Jvm.ClassFile.FieldType.int)) ∈ wA := inC7 27 rfl (by decide +kernel)
theorem q_1536 : (Jvm.Cond.methodLink "FourSledgeLaw" (41 : Nat) ({ cls := "FourSledgeModel", name := "fault", desc := "()I" } : Jvm.MethodName)) ∈ wA := inC7 96 rfl (by decide +kernel)
theorem q_1537 : (Jvm.Cond.instanceMethod ({ cls := "FourSledgeModel", name := "fault", desc := "()I" } : Jvm.MethodName)) ∈ wA := inC7 97 rfl (by decide +kernel)
theorem q_1538 : (Jvm.Cond.selects "FourSledgeModel" ({ cls := "FourSledgeModel", name := "fault", desc := "()I" } : Jvm.MethodName) ({ cls := "FourSledgeModel", name := "fault", desc := "()I" } : Jvm.MethodName)) ∈ wA := inC7 98 rfl (by decide +kernel)
theorem q_1539 : (Jvm.Cond.code ({ cls := "FourSledgeModel", name := "fault", desc := "()I" } : Jvm.MethodName) prog_12_method_31_code (1 : Nat) (Option.some Jvm.ClassFile.FieldType.int)) ∈ wA := inC7 99 rfl (by decide +kernel)
theorem q_1540 : (Jvm.Cond.methodLink "FourSledgeLaw" (37 : Nat) ({ cls := "FourSledgeModel", name := "plan", desc := "()I" } : Jvm.MethodName)) ∈ wA := inC7 100 rfl (by decide +kernel)
theorem q_1541 : (Jvm.Cond.instanceMethod ({ cls := "FourSledgeModel", name := "plan", desc := "()I" } : Jvm.MethodName)) ∈ wA := inC7 101 rfl (by decide +kernel)
theorem q_1542 : (Jvm.Cond.selects "FourSledgeModel" ({ cls := "FourSledgeModel", name := "plan", desc := "()I" } : Jvm.MethodName) ({ cls := "FourSledgeModel", name := "plan", desc := "()I" } : Jvm.MethodName)) ∈ wA := inC7 102 rfl (by decide +kernel)
theorem q_1543 : (Jvm.Cond.code ({ cls := "FourSledgeModel", name := "plan", desc := "()I" } : Jvm.MethodName) prog_12_method_35_code (3 : Nat) (Option.some Jvm.ClassFile.FieldType.int)) ∈ wA := inC7 103 rfl (by decide +kernel)
theorem q_1556 : (Jvm.Cond.methodLink "FourSledgeLaw" (47 : Nat) ({ cls := "FourSledgeModel", name := "man", desc := "(II)I" } : Jvm.MethodName)) ∈ wA := inC7 116 rfl (by decide +kernel)
theorem q_1557 : (Jvm.Cond.instanceMethod ({ cls := "FourSledgeModel", name := "man", desc := "(II)I" } : Jvm.MethodName)) ∈ wA := inC7 117 rfl (by decide +kernel)
theorem q_1558 : (Jvm.Cond.selects "FourSledgeModel" ({ cls := "FourSledgeModel", name := "man", desc := "(II)I" } : Jvm.MethodName) ({ cls := "FourSledgeModel", name := "man", desc := "(II)I" } : Jvm.MethodName)) ∈ wA := inC7 118 rfl (by decide +kernel)
theorem q_1559 : (Jvm.Cond.code ({ cls := "FourSledgeModel", name := "man", desc := "(II)I" } : Jvm.MethodName) prog_12_method_38_code (4 : Nat) (Option.some Jvm.ClassFile.FieldType.int)) ∈ wA := inC7 119 rfl (by decide +kernel)
theorem q_1572 : (Jvm.Cond.methodLink "FourSledgeLaw" (51 : Nat) ({ cls := "FourSledgeModel", name := "bend", desc := "(II)I" } : Jvm.MethodName)) ∈ wA := inC7 132 rfl (by decide +kernel)
theorem q_1573 : (Jvm.Cond.instanceMethod ({ cls := "FourSledgeModel", name := "bend", desc := "(II)I" } : Jvm.MethodName)) ∈ wA := inC7 133 rfl (by decide +kernel)
theorem q_1574 : (Jvm.Cond.selects "FourSledgeModel" ({ cls := "FourSledgeModel", name := "bend", desc := "(II)I" } : Jvm.MethodName) ({ cls := "FourSledgeModel", name := "bend", desc := "(II)I" } : Jvm.MethodName)) ∈ wA := inC7 134 rfl (by decide +kernel)
theorem q_1575 : (Jvm.Cond.code ({ cls := "FourSledgeModel", name := "bend", desc := "(II)I" } : Jvm.MethodName) prog_12_method_40_code (3 : Nat) (Option.some Jvm.ClassFile.FieldType.int)) ∈ wA := inC7 135 rfl (by decide +kernel)
theorem q_1580 : (Jvm.Cond.methodLink "FourSledgeLaw" (55 : Nat) ({ cls := "FourSledgeModel", name := "runner", desc := "(II)I" } : Jvm.MethodName)) ∈ wA := inC7 140 rfl (by decide +kernel)
theorem q_1581 : (Jvm.Cond.instanceMethod ({ cls := "FourSledgeModel", name := "runner", desc := "(II)I" } : Jvm.MethodName)) ∈ wA := inC7 141 rfl (by decide +kernel)
theorem q_1582 : (Jvm.Cond.selects "FourSledgeModel" ({ cls := "FourSledgeModel", name := "runner", desc := "(II)I" } : Jvm.MethodName) ({ cls := "FourSledgeModel", name := "runner", desc := "(II)I" } : Jvm.MethodName)) ∈ wA := inC7 142 rfl (by decide +kernel)
theorem q_1583 : (Jvm.Cond.code ({ cls := "FourSledgeModel", name := "runner", desc := "(II)I" } : Jvm.MethodName) prog_12_method_43_code (3 : Nat) (Option.some Jvm.ClassFile.FieldType.int)) ∈ wA := inC7 143 rfl (by decide +kernel)
theorem q_1595 : (Jvm.Cond.methodLink "FourSledgeLaw" (60 : Nat) ({ cls := "FourSledgeModel", name := "start", desc := "(I)I" } : Jvm.MethodName)) ∈ wA := inC7 155 rfl (by decide +kernel)
theorem q_1596 : (Jvm.Cond.instanceMethod ({ cls := "FourSledgeModel", name := "start", desc := "(I)I" } : Jvm.MethodName)) ∈ wA := inC7 156 rfl (by decide +kernel)
theorem q_1597 : (Jvm.Cond.selects "FourSledgeModel" ({ cls := "FourSledgeModel", name := "start", desc := "(I)I" } : Jvm.MethodName) ({ cls := "FourSledgeModel", name := "start", desc := "(I)I" } : Jvm.MethodName)) ∈ wA := inC7 157 rfl (by decide +kernel)
theorem q_1598 : (Jvm.Cond.code ({ cls := "FourSledgeModel", name := "start", desc := "(I)I" } : Jvm.MethodName) prog_12_method_50_code (2 : Nat) (Option.some Jvm.ClassFile.FieldType.int)) ∈ wA := inC7 158 rfl (by decide +kernel)
theorem q_1630 : (Jvm.Cond.methodLink "FourSledgeLaw" (64 : Nat) ({ cls := "FourSledgeModel", name := "pace", desc := "(I)I" } : Jvm.MethodName)) ∈ wA := inC7 190 rfl (by decide +kernel)
theorem q_1631 : (Jvm.Cond.instanceMethod ({ cls := "FourSledgeModel", name := "pace", desc := "(I)I" } : Jvm.MethodName)) ∈ wA := inC7 191 rfl (by decide +kernel)
theorem q_1632 : (Jvm.Cond.selects "FourSledgeModel" ({ cls := "FourSledgeModel", name := "pace", desc := "(I)I" } : Jvm.MethodName) ({ cls := "FourSledgeModel", name := "pace", desc := "(I)I" } : Jvm.MethodName)) ∈ wA := inC7 192 rfl (by decide +kernel)
theorem q_1633 : (Jvm.Cond.code ({ cls := "FourSledgeModel", name := "pace", desc := "(I)I" } : Jvm.MethodName) prog_12_method_51_code (2 : Nat) (Option.some Jvm.ClassFile.FieldType.int)) ∈ wA := inC7 193 rfl (by decide +kernel)
theorem q_1634 : (Jvm.Cond.methodLink "FourSledgeLaw" (68 : Nat) ({ cls := "FourSledgeModel", name := "jumps", desc := "(I)I" } : Jvm.MethodName)) ∈ wA := inC7 194 rfl (by decide +kernel)
theorem q_1635 : (Jvm.Cond.instanceMethod ({ cls := "FourSledgeModel", name := "jumps", desc := "(I)I" } : Jvm.MethodName)) ∈ wA := inC7 195 rfl (by decide +kernel)
theorem q_1636 : (Jvm.Cond.selects "FourSledgeModel" ({ cls := "FourSledgeModel", name := "jumps", desc := "(I)I" } : Jvm.MethodName) ({ cls := "FourSledgeModel", name := "jumps", desc := "(I)I" } : Jvm.MethodName)) ∈ wA := inC7 196 rfl (by decide +kernel)
theorem q_1637 : (Jvm.Cond.code ({ cls := "FourSledgeModel", name := "jumps", desc := "(I)I" } : Jvm.MethodName) prog_12_method_52_code (2 : Nat) (Option.some Jvm.ClassFile.FieldType.int)) ∈ wA := inC7 197 rfl (by decide +kernel)
theorem q_1638 : (Jvm.Cond.methodLink "FourSledgeLaw" (72 : Nat) ({ cls := "FourSledgeModel", name := "run", desc := "(I)I" } : Jvm.MethodName)) ∈ wA := inC7 198 rfl (by decide +kernel)
theorem q_1639 : (Jvm.Cond.instanceMethod ({ cls := "FourSledgeModel", name := "run", desc := "(I)I" } : Jvm.MethodName)) ∈ wA := inC7 199 rfl (by decide +kernel)
theorem q_1640 : (Jvm.Cond.selects "FourSledgeModel" ({ cls := "FourSledgeModel", name := "run", desc := "(I)I" } : Jvm.MethodName) ({ cls := "FourSledgeModel", name := "run", desc := "(I)I" } : Jvm.MethodName)) ∈ wA := inC7 200 rfl (by decide +kernel)
theorem q_1641 : (Jvm.Cond.code ({ cls := "FourSledgeModel", name := "run", desc := "(I)I" } : Jvm.MethodName) prog_12_method_57_code (3 : Nat) (Option.some Jvm.ClassFile.FieldType.int)) ∈ wA := inC7 201 rfl (by decide +kernel)
theorem q_1658 : (Jvm.Cond.methodLink "FourSledgeLaw" (76 : Nat) ({ cls := "FourSledgeModel", name := "behind", desc := "(I)I" } : Jvm.MethodName)) ∈ wA := inC7 218 rfl (by decide +kernel)
theorem q_1659 : (Jvm.Cond.instanceMethod ({ cls := "FourSledgeModel", name := "behind", desc := "(I)I" } : Jvm.MethodName)) ∈ wA := inC7 219 rfl (by decide +kernel)
theorem q_1660 : (Jvm.Cond.selects "FourSledgeModel" ({ cls := "FourSledgeModel", name := "behind", desc := "(I)I" } : Jvm.MethodName) ({ cls := "FourSledgeModel", name := "behind", desc := "(I)I" } : Jvm.MethodName)) ∈ wA := inC7 220 rfl (by decide +kernel)
theorem q_1661 : (Jvm.Cond.code ({ cls := "FourSledgeModel", name := "behind", desc := "(I)I" } : Jvm.MethodName) prog_12_method_58_code (2 : Nat) (Option.some Jvm.ClassFile.FieldType.int)) ∈ wA := inC7 221 rfl (by decide +kernel)
theorem q_1662 : (Jvm.Cond.methodLink "FourSledgeLaw" (97 : Nat) ({ cls := "FourSledgeModel", name := "undo", desc := "()I" } : Jvm.MethodName)) ∈ wA := inC7 222 rfl (by decide +kernel)
theorem q_1663 : (Jvm.Cond.instanceMethod ({ cls := "FourSledgeModel", name := "undo", desc := "()I" } : Jvm.MethodName)) ∈ wA := inC7 223 rfl (by decide +kernel)
theorem q_1664 : (Jvm.Cond.selects "FourSledgeModel" ({ cls := "FourSledgeModel", name := "undo", desc := "()I" } : Jvm.MethodName) ({ cls := "FourSledgeModel", name := "undo", desc := "()I" } : Jvm.MethodName)) ∈ wA := inC7 224 rfl (by decide +kernel)
theorem q_1665 : (Jvm.Cond.code ({ cls := "FourSledgeModel", name := "undo", desc := "()I" } : Jvm.MethodName) prog_12_method_60_code (2 : Nat) (Option.some Jvm.ClassFile.FieldType.int)) ∈ wA := inC7 225 rfl (by decide +kernel)
theorem q_1666 : (Jvm.Cond.methodLink "FourSledgeLaw" (81 : Nat) ({ cls := "FourSledgeModel", name := "jump", desc := "(II)Z" } : Jvm.MethodName)) ∈ wA := inC7 226 rfl (by decide +kernel)
theorem q_1667 : (Jvm.Cond.instanceMethod ({ cls := "FourSledgeModel", name := "jump", desc := "(II)Z" } : Jvm.MethodName)) ∈ wA := inC7 227 rfl (by decide +kernel)
theorem q_1668 : (Jvm.Cond.selects "FourSledgeModel" ({ cls := "FourSledgeModel", name := "jump", desc := "(II)Z" } : Jvm.MethodName) ({ cls := "FourSledgeModel", name := "jump", desc := "(II)Z" } : Jvm.MethodName)) ∈ wA := inC7 228 rfl (by decide +kernel)
theorem q_1669 : (Jvm.Cond.code ({ cls := "FourSledgeModel", name := "jump", desc := "(II)Z" } : Jvm.MethodName) prog_12_method_64_code (3 : Nat) (Option.some Jvm.ClassFile.FieldType.boolean)) ∈ wA := inC7 229 rfl (by decide +kernel)
theorem q_1678 : (Jvm.Cond.methodLink "FourSledgeLaw" (85 : Nat) ({ cls := "FourSledgeModel", name := "high", desc := "(II)Z" } : Jvm.MethodName)) ∈ wA := inC7 238 rfl (by decide +kernel)
theorem q_1679 : (Jvm.Cond.instanceMethod ({ cls := "FourSledgeModel", name := "high", desc := "(II)Z" } : Jvm.MethodName)) ∈ wA := inC7 239 rfl (by decide +kernel)
theorem q_1680 : (Jvm.Cond.selects "FourSledgeModel" ({ cls := "FourSledgeModel", name := "high", desc := "(II)Z" } : Jvm.MethodName) ({ cls := "FourSledgeModel", name := "high", desc := "(II)Z" } : Jvm.MethodName)) ∈ wA := inC8 0 rfl (by decide +kernel)
theorem q_1681 : (Jvm.Cond.code ({ cls := "FourSledgeModel", name := "high", desc := "(II)Z" } : Jvm.MethodName) prog_12_method_65_code (3 : Nat) (Option.some Jvm.ClassFile.FieldType.boolean)) ∈ wA := inC8 1 rfl (by decide +kernel)
theorem q_1682 : (Jvm.Cond.methodLink "FourSledgeLaw" (89 : Nat) ({ cls := "FourSledgeModel", name := "set", desc := "(II)Z" } : Jvm.MethodName)) ∈ wA := inC8 2 rfl (by decide +kernel)
theorem q_1683 : (Jvm.Cond.instanceMethod ({ cls := "FourSledgeModel", name := "set", desc := "(II)Z" } : Jvm.MethodName)) ∈ wA := inC8 3 rfl (by decide +kernel)
theorem q_1684 : (Jvm.Cond.selects "FourSledgeModel" ({ cls := "FourSledgeModel", name := "set", desc := "(II)Z" } : Jvm.MethodName) ({ cls := "FourSledgeModel", name := "set", desc := "(II)Z" } : Jvm.MethodName)) ∈ wA := inC8 4 rfl (by decide +kernel)
theorem q_1685 : (Jvm.Cond.code ({ cls := "FourSledgeModel", name := "set", desc := "(II)Z" } : Jvm.MethodName) prog_12_method_66_code (3 : Nat) (Option.some Jvm.ClassFile.FieldType.boolean)) ∈ wA := inC8 5 rfl (by decide +kernel)
theorem q_1686 : (Jvm.Cond.methodLink "FourSledgeLaw" (93 : Nat) ({ cls := "FourSledgeModel", name := "swap", desc := "(II)Z" } : Jvm.MethodName)) ∈ wA := inC8 6 rfl (by decide +kernel)
theorem q_1687 : (Jvm.Cond.instanceMethod ({ cls := "FourSledgeModel", name := "swap", desc := "(II)Z" } : Jvm.MethodName)) ∈ wA := inC8 7 rfl (by decide +kernel)
theorem q_1688 : (Jvm.Cond.selects "FourSledgeModel" ({ cls := "FourSledgeModel", name := "swap", desc := "(II)Z" } : Jvm.MethodName) ({ cls := "FourSledgeModel", name := "swap", desc := "(II)Z" } : Jvm.MethodName)) ∈ wA := inC8 8 rfl (by decide +kernel)
theorem q_1689 : (Jvm.Cond.code ({ cls := "FourSledgeModel", name := "swap", desc := "(II)Z" } : Jvm.MethodName) prog_12_method_67_code (5 : Nat) (Option.some Jvm.ClassFile.FieldType.boolean)) ∈ wA := inC8 9 rfl (by decide +kernel)
theorem q_1690 : (Jvm.Cond.methodLink "FourSledgeLaw" (101 : Nat) ({ cls := "FourSledgeModel", name := "best", desc := "()I" } : Jvm.MethodName)) ∈ wA := inC8 10 rfl (by decide +kernel)
theorem q_1691 : (Jvm.Cond.instanceMethod ({ cls := "FourSledgeModel", name := "best", desc := "()I" } : Jvm.MethodName)) ∈ wA := inC8 11 rfl (by decide +kernel)
theorem q_1692 : (Jvm.Cond.selects "FourSledgeModel" ({ cls := "FourSledgeModel", name := "best", desc := "()I" } : Jvm.MethodName) ({ cls := "FourSledgeModel", name := "best", desc := "()I" } : Jvm.MethodName)) ∈ wA := inC8 12 rfl (by decide +kernel)
theorem q_1693 : (Jvm.Cond.code ({ cls := "FourSledgeModel", name := "best", desc := "()I" } : Jvm.MethodName) prog_12_method_73_code (5 : Nat) (Option.some Jvm.ClassFile.FieldType.int)) ∈ wA := inC8 13 rfl (by decide +kernel)
theorem q_1714 : (Jvm.Cond.methodLink "FourSledgeLaw" (105 : Nat) ({ cls := "FourSledgeModel", name := "when", desc := "(I)I" } : Jvm.MethodName)) ∈ wA := inC8 34 rfl (by decide +kernel)
theorem q_1715 : (Jvm.Cond.instanceMethod ({ cls := "FourSledgeModel", name := "when", desc := "(I)I" } : Jvm.MethodName)) ∈ wA := inC8 35 rfl (by decide +kernel)
theorem q_1716 : (Jvm.Cond.selects "FourSledgeModel" ({ cls := "FourSledgeModel", name := "when", desc := "(I)I" } : Jvm.MethodName) ({ cls := "FourSledgeModel", name := "when", desc := "(I)I" } : Jvm.MethodName)) ∈ wA := inC8 36 rfl (by decide +kernel)
theorem q_1717 : (Jvm.Cond.code ({ cls := "FourSledgeModel", name := "when", desc := "(I)I" } : Jvm.MethodName) prog_12_method_74_code (2 : Nat) (Option.some Jvm.ClassFile.FieldType.int)) ∈ wA := inC8 37 rfl (by decide +kernel)
theorem q_1718 : (Jvm.Cond.methodLink "FourSledgeLaw" (109 : Nat) ({ cls := "FourSledgeModel", name := "line", desc := "()I" } : Jvm.MethodName)) ∈ wA := inC8 38 rfl (by decide +kernel)
theorem q_1719 : (Jvm.Cond.instanceMethod ({ cls := "FourSledgeModel", name := "line", desc := "()I" } : Jvm.MethodName)) ∈ wA := inC8 39 rfl (by decide +kernel)
theorem q_1720 : (Jvm.Cond.selects "FourSledgeModel" ({ cls := "FourSledgeModel", name := "line", desc := "()I" } : Jvm.MethodName) ({ cls := "FourSledgeModel", name := "line", desc := "()I" } : Jvm.MethodName)) ∈ wA := inC8 40 rfl (by decide +kernel)
theorem q_1721 : (Jvm.Cond.code ({ cls := "FourSledgeModel", name := "line", desc := "()I" } : Jvm.MethodName) prog_12_method_77_code (7 : Nat) (Option.some Jvm.ClassFile.FieldType.int)) ∈ wA := inC8 41 rfl (by decide +kernel)
theorem q_1729 : (Jvm.Cond.methodLink "FourSledgeLaw" (113 : Nat) ({ cls := "FourSledgeModel", name := "height", desc := "(I)I" } : Jvm.MethodName)) ∈ wA := inC8 49 rfl (by decide +kernel)
theorem q_1730 : (Jvm.Cond.instanceMethod ({ cls := "FourSledgeModel", name := "height", desc := "(I)I" } : Jvm.MethodName)) ∈ wA := inC8 50 rfl (by decide +kernel)
theorem q_1731 : (Jvm.Cond.selects "FourSledgeModel" ({ cls := "FourSledgeModel", name := "height", desc := "(I)I" } : Jvm.MethodName) ({ cls := "FourSledgeModel", name := "height", desc := "(I)I" } : Jvm.MethodName)) ∈ wA := inC8 51 rfl (by decide +kernel)
theorem q_1732 : (Jvm.Cond.code ({ cls := "FourSledgeModel", name := "height", desc := "(I)I" } : Jvm.MethodName) prog_12_method_78_code (2 : Nat) (Option.some Jvm.ClassFile.FieldType.int)) ∈ wA := inC8 52 rfl (by decide +kernel)
theorem q_1733 : (Jvm.Cond.methodLink "FourSledgeLaw" (117 : Nat) ({ cls := "FourSledgeModel", name := "take", desc := "(I)Z" } : Jvm.MethodName)) ∈ wA := inC8 53 rfl (by decide +kernel)
theorem q_1734 : (Jvm.Cond.instanceMethod ({ cls := "FourSledgeModel", name := "take", desc := "(I)Z" } : Jvm.MethodName)) ∈ wA := inC8 54 rfl (by decide +kernel)
theorem q_1735 : (Jvm.Cond.selects "FourSledgeModel" ({ cls := "FourSledgeModel", name := "take", desc := "(I)Z" } : Jvm.MethodName) ({ cls := "FourSledgeModel", name := "take", desc := "(I)Z" } : Jvm.MethodName)) ∈ wA := inC8 55 rfl (by decide +kernel)
theorem q_1736 : (Jvm.Cond.code ({ cls := "FourSledgeModel", name := "take", desc := "(I)Z" } : Jvm.MethodName) prog_12_method_79_code (4 : Nat) (Option.some Jvm.ClassFile.FieldType.boolean)) ∈ wA := inC8 56 rfl (by decide +kernel)
theorem q_1737 : (Jvm.Cond.methodLink "FourSledgeLaw" (121 : Nat) ({ cls := "FourSledgeModel", name := "four", desc := "()I" } : Jvm.MethodName)) ∈ wA := inC8 57 rfl (by decide +kernel)
theorem q_1738 : (Jvm.Cond.instanceMethod ({ cls := "FourSledgeModel", name := "four", desc := "()I" } : Jvm.MethodName)) ∈ wA := inC8 58 rfl (by decide +kernel)
theorem q_1739 : (Jvm.Cond.selects "FourSledgeModel" ({ cls := "FourSledgeModel", name := "four", desc := "()I" } : Jvm.MethodName) ({ cls := "FourSledgeModel", name := "four", desc := "()I" } : Jvm.MethodName)) ∈ wA := inC8 59 rfl (by decide +kernel)
theorem q_1740 : (Jvm.Cond.code ({ cls := "FourSledgeModel", name := "four", desc := "()I" } : Jvm.MethodName) prog_12_method_81_code (6 : Nat) (Option.some Jvm.ClassFile.FieldType.int)) ∈ wA := inC8 60 rfl (by decide +kernel)
theorem q_1752 : (Jvm.Cond.methodLink "FourSledgeLaw" (125 : Nat) ({ cls := "FourSledgeModel", name := "kilo", desc := "(I)I" } : Jvm.MethodName)) ∈ wA := inC8 72 rfl (by decide +kernel)
theorem q_1753 : (Jvm.Cond.instanceMethod ({ cls := "FourSledgeModel", name := "kilo", desc := "(I)I" } : Jvm.MethodName)) ∈ wA := inC8 73 rfl (by decide +kernel)
theorem q_1754 : (Jvm.Cond.selects "FourSledgeModel" ({ cls := "FourSledgeModel", name := "kilo", desc := "(I)I" } : Jvm.MethodName) ({ cls := "FourSledgeModel", name := "kilo", desc := "(I)I" } : Jvm.MethodName)) ∈ wA := inC8 74 rfl (by decide +kernel)
theorem q_1755 : (Jvm.Cond.code ({ cls := "FourSledgeModel", name := "kilo", desc := "(I)I" } : Jvm.MethodName) prog_12_method_84_code (2 : Nat) (Option.some Jvm.ClassFile.FieldType.int)) ∈ wA := inC8 75 rfl (by decide +kernel)
theorem q_1764 : (Jvm.Cond.methodLink "FourSledgeLaw" (129 : Nat) ({ cls := "FourSledgeModel", name := "runners", desc := "()I" } : Jvm.MethodName)) ∈ wA := inC8 84 rfl (by decide +kernel)
theorem q_1765 : (Jvm.Cond.instanceMethod ({ cls := "FourSledgeModel", name := "runners", desc := "()I" } : Jvm.MethodName)) ∈ wA := inC8 85 rfl (by decide +kernel)
theorem q_1766 : (Jvm.Cond.selects "FourSledgeModel" ({ cls := "FourSledgeModel", name := "runners", desc := "()I" } : Jvm.MethodName) ({ cls := "FourSledgeModel", name := "runners", desc := "()I" } : Jvm.MethodName)) ∈ wA := inC8 86 rfl (by decide +kernel)
theorem q_1767 : (Jvm.Cond.code ({ cls := "FourSledgeModel", name := "runners", desc := "()I" } : Jvm.MethodName) prog_12_method_85_code (5 : Nat) (Option.some Jvm.ClassFile.FieldType.int)) ∈ wA := inC8 87 rfl (by decide +kernel)
theorem q_1768 : (Jvm.Cond.methodLink "FourSledgeLaw" (133 : Nat) ({ cls := "FourSledgeModel", name := "runs", desc := "()I" } : Jvm.MethodName)) ∈ wA := inC8 88 rfl (by decide +kernel)
theorem q_1769 : (Jvm.Cond.instanceMethod ({ cls := "FourSledgeModel", name := "runs", desc := "()I" } : Jvm.MethodName)) ∈ wA := inC8 89 rfl (by decide +kernel)
theorem q_1770 : (Jvm.Cond.selects "FourSledgeModel" ({ cls := "FourSledgeModel", name := "runs", desc := "()I" } : Jvm.MethodName) ({ cls := "FourSledgeModel", name := "runs", desc := "()I" } : Jvm.MethodName)) ∈ wA := inC8 90 rfl (by decide +kernel)
theorem q_1771 : (Jvm.Cond.code ({ cls := "FourSledgeModel", name := "runs", desc := "()I" } : Jvm.MethodName) prog_12_method_86_code (4 : Nat) (Option.some Jvm.ClassFile.FieldType.int)) ∈ wA := inC8 91 rfl (by decide +kernel)
theorem q_1776 : (Jvm.Cond.methodLink "FourSledgeLaw" (137 : Nat) ({ cls := "FourSledgeModel", name := "worth", desc := "(II)I" } : Jvm.MethodName)) ∈ wA := inC8 96 rfl (by decide +kernel)
theorem q_1777 : (Jvm.Cond.instanceMethod ({ cls := "FourSledgeModel", name := "worth", desc := "(II)I" } : Jvm.MethodName)) ∈ wA := inC8 97 rfl (by decide +kernel)
theorem q_1778 : (Jvm.Cond.selects "FourSledgeModel" ({ cls := "FourSledgeModel", name := "worth", desc := "(II)I" } : Jvm.MethodName) ({ cls := "FourSledgeModel", name := "worth", desc := "(II)I" } : Jvm.MethodName)) ∈ wA := inC8 98 rfl (by decide +kernel)
theorem q_1779 : (Jvm.Cond.code ({ cls := "FourSledgeModel", name := "worth", desc := "(II)I" } : Jvm.MethodName) prog_12_method_87_code (3 : Nat) (Option.some Jvm.ClassFile.FieldType.int)) ∈ wA := inC8 99 rfl (by decide +kernel)
theorem q_1780 : (Jvm.Cond.methodLink "FourSledgeLaw" (142 : Nat) ({ cls := "FourSledgeModel", name := "keep", desc := "()Z" } : Jvm.MethodName)) ∈ wA := inC8 100 rfl (by decide +kernel)
theorem q_1781 : (Jvm.Cond.instanceMethod ({ cls := "FourSledgeModel", name := "keep", desc := "()Z" } : Jvm.MethodName)) ∈ wA := inC8 101 rfl (by decide +kernel)
theorem q_1782 : (Jvm.Cond.selects "FourSledgeModel" ({ cls := "FourSledgeModel", name := "keep", desc := "()Z" } : Jvm.MethodName) ({ cls := "FourSledgeModel", name := "keep", desc := "()Z" } : Jvm.MethodName)) ∈ wA := inC8 102 rfl (by decide +kernel)
theorem q_1783 : (Jvm.Cond.code ({ cls := "FourSledgeModel", name := "keep", desc := "()Z" } : Jvm.MethodName) prog_12_method_88_code (2 : Nat) (Option.some Jvm.ClassFile.FieldType.boolean)) ∈ wA := inC8 103 rfl (by decide +kernel)
theorem q_1784 : (Jvm.Cond.methodLink "FourSledgeLaw" (146 : Nat) ({ cls := "FourSledgeModel", name := "lost", desc := "(I)I" } : Jvm.MethodName)) ∈ wA := inC8 104 rfl (by decide +kernel)
theorem q_1785 : (Jvm.Cond.instanceMethod ({ cls := "FourSledgeModel", name := "lost", desc := "(I)I" } : Jvm.MethodName)) ∈ wA := inC8 105 rfl (by decide +kernel)
theorem q_1786 : (Jvm.Cond.selects "FourSledgeModel" ({ cls := "FourSledgeModel", name := "lost", desc := "(I)I" } : Jvm.MethodName) ({ cls := "FourSledgeModel", name := "lost", desc := "(I)I" } : Jvm.MethodName)) ∈ wA := inC8 106 rfl (by decide +kernel)
theorem q_1787 : (Jvm.Cond.code ({ cls := "FourSledgeModel", name := "lost", desc := "(I)I" } : Jvm.MethodName) prog_12_method_89_code (11 : Nat) (Option.some Jvm.ClassFile.FieldType.int)) ∈ wA := inC8 107 rfl (by decide +kernel)
theorem q_1788 : (Jvm.Cond.methodLink "FourSledgeLaw" (150 : Nat) ({ cls := "FourSledgeModel", name := "touch", desc := "(II)I" } : Jvm.MethodName)) ∈ wA := inC8 108 rfl (by decide +kernel)
theorem q_1789 : (Jvm.Cond.instanceMethod ({ cls := "FourSledgeModel", name := "touch", desc := "(II)I" } : Jvm.MethodName)) ∈ wA := inC8 109 rfl (by decide +kernel)
theorem q_1790 : (Jvm.Cond.selects "FourSledgeModel" ({ cls := "FourSledgeModel", name := "touch", desc := "(II)I" } : Jvm.MethodName) ({ cls := "FourSledgeModel", name := "touch", desc := "(II)I" } : Jvm.MethodName)) ∈ wA := inC8 110 rfl (by decide +kernel)
theorem q_1791 : (Jvm.Cond.code ({ cls := "FourSledgeModel", name := "touch", desc := "(II)I" } : Jvm.MethodName) prog_12_method_90_code (5 : Nat) (Option.some Jvm.ClassFile.FieldType.int)) ∈ wA := inC8 111 rfl (by decide +kernel)
theorem q_1792 : (Jvm.Cond.methodLink "FourSledgeLaw" (154 : Nat) ({ cls := "FourSledgeModel", name := "drawn", desc := "(I)I" } : Jvm.MethodName)) ∈ wA := inC8 112 rfl (by decide +kernel)
theorem q_1793 : (Jvm.Cond.instanceMethod ({ cls := "FourSledgeModel", name := "drawn", desc := "(I)I" } : Jvm.MethodName)) ∈ wA := inC8 113 rfl (by decide +kernel)
theorem q_1794 : (Jvm.Cond.selects "FourSledgeModel" ({ cls := "FourSledgeModel", name := "drawn", desc := "(I)I" } : Jvm.MethodName) ({ cls := "FourSledgeModel", name := "drawn", desc := "(I)I" } : Jvm.MethodName)) ∈ wA := inC8 114 rfl (by decide +kernel)
theorem q_1795 : (Jvm.Cond.code ({ cls := "FourSledgeModel", name := "drawn", desc := "(I)I" } : Jvm.MethodName) prog_12_method_92_code (2 : Nat) (Option.some Jvm.ClassFile.FieldType.int)) ∈ wA := inC8 115 rfl (by decide +kernel)
theorem q_1800 : (Jvm.Cond.methodLink "FourSledgeLaw" (159 : Nat) ({ cls := "FourSledgeModel", name := "odds", desc := "(III)I" } : Jvm.MethodName)) ∈ wA := inC8 120 rfl (by decide +kernel)
theorem q_1801 : (Jvm.Cond.instanceMethod ({ cls := "FourSledgeModel", name := "odds", desc := "(III)I" } : Jvm.MethodName)) ∈ wA := inC8 121 rfl (by decide +kernel)
theorem q_1802 : (Jvm.Cond.selects "FourSledgeModel" ({ cls := "FourSledgeModel", name := "odds", desc := "(III)I" } : Jvm.MethodName) ({ cls := "FourSledgeModel", name := "odds", desc := "(III)I" } : Jvm.MethodName)) ∈ wA := inC8 122 rfl (by decide +kernel)
theorem q_1803 : (Jvm.Cond.code ({ cls := "FourSledgeModel", name := "odds", desc := "(III)I" } : Jvm.MethodName) prog_12_method_93_code (7 : Nat) (Option.some Jvm.ClassFile.FieldType.int)) ∈ wA := inC8 123 rfl (by decide +kernel)
theorem q_1804 : (Jvm.Cond.methodLink "FourSledgeLaw" (163 : Nat) ({ cls := "FourSledgeModel", name := "room", desc := "()I" } : Jvm.MethodName)) ∈ wA := inC8 124 rfl (by decide +kernel)
theorem q_1805 : (Jvm.Cond.instanceMethod ({ cls := "FourSledgeModel", name := "room", desc := "()I" } : Jvm.MethodName)) ∈ wA := inC8 125 rfl (by decide +kernel)
theorem q_1806 : (Jvm.Cond.selects "FourSledgeModel" ({ cls := "FourSledgeModel", name := "room", desc := "()I" } : Jvm.MethodName) ({ cls := "FourSledgeModel", name := "room", desc := "()I" } : Jvm.MethodName)) ∈ wA := inC8 126 rfl (by decide +kernel)
theorem q_1807 : (Jvm.Cond.code ({ cls := "FourSledgeModel", name := "room", desc := "()I" } : Jvm.MethodName) prog_12_method_94_code (2 : Nat) (Option.some Jvm.ClassFile.FieldType.int)) ∈ wA := inC8 127 rfl (by decide +kernel)
theorem q_1808 : (Jvm.Cond.methodLink "FourSledgeLaw" (167 : Nat) ({ cls := "FourSledgeModel", name := "sentence", desc := "()I" } : Jvm.MethodName)) ∈ wA := inC8 128 rfl (by decide +kernel)
theorem q_1809 : (Jvm.Cond.instanceMethod ({ cls := "FourSledgeModel", name := "sentence", desc := "()I" } : Jvm.MethodName)) ∈ wA := inC8 129 rfl (by decide +kernel)
theorem q_1810 : (Jvm.Cond.selects "FourSledgeModel" ({ cls := "FourSledgeModel", name := "sentence", desc := "()I" } : Jvm.MethodName) ({ cls := "FourSledgeModel", name := "sentence", desc := "()I" } : Jvm.MethodName)) ∈ wA := inC8 130 rfl (by decide +kernel)
theorem q_1811 : (Jvm.Cond.code ({ cls := "FourSledgeModel", name := "sentence", desc := "()I" } : Jvm.MethodName) prog_12_method_101_code (3 : Nat) (Option.some Jvm.ClassFile.FieldType.int)) ∈ wA := inC8 131 rfl (by decide +kernel)
theorem q_1836 : (Jvm.Cond.methodLink "FourSledgeLaw" (171 : Nat) ({ cls := "FourSledgeModel", name := "said", desc := "(I)I" } : Jvm.MethodName)) ∈ wA := inC8 156 rfl (by decide +kernel)
theorem q_1837 : (Jvm.Cond.instanceMethod ({ cls := "FourSledgeModel", name := "said", desc := "(I)I" } : Jvm.MethodName)) ∈ wA := inC8 157 rfl (by decide +kernel)
theorem q_1838 : (Jvm.Cond.selects "FourSledgeModel" ({ cls := "FourSledgeModel", name := "said", desc := "(I)I" } : Jvm.MethodName) ({ cls := "FourSledgeModel", name := "said", desc := "(I)I" } : Jvm.MethodName)) ∈ wA := inC8 158 rfl (by decide +kernel)
theorem q_1839 : (Jvm.Cond.code ({ cls := "FourSledgeModel", name := "said", desc := "(I)I" } : Jvm.MethodName) prog_12_method_104_code (4 : Nat) (Option.some Jvm.ClassFile.FieldType.int)) ∈ wA := inC8 159 rfl (by decide +kernel)
theorem q_1848 : (Jvm.Cond.methodLink "FourSledgeLaw" (175 : Nat) ({ cls := "FourSledgeModel", name := "image", desc := "(I)Z" } : Jvm.MethodName)) ∈ wA := inC8 168 rfl (by decide +kernel)
theorem q_1849 : (Jvm.Cond.instanceMethod ({ cls := "FourSledgeModel", name := "image", desc := "(I)Z" } : Jvm.MethodName)) ∈ wA := inC8 169 rfl (by decide +kernel)
theorem q_1850 : (Jvm.Cond.selects "FourSledgeModel" ({ cls := "FourSledgeModel", name := "image", desc := "(I)Z" } : Jvm.MethodName) ({ cls := "FourSledgeModel", name := "image", desc := "(I)Z" } : Jvm.MethodName)) ∈ wA := inC8 170 rfl (by decide +kernel)
theorem q_1851 : (Jvm.Cond.code ({ cls := "FourSledgeModel", name := "image", desc := "(I)Z" } : Jvm.MethodName) prog_12_method_105_code (3 : Nat) (Option.some Jvm.ClassFile.FieldType.boolean)) ∈ wA := inC8 171 rfl (by decide +kernel)
theorem q_1852 : (Jvm.Cond.methodLink "FourSledgeLaw" (179 : Nat) ({ cls := "FourSledgeModel", name := "restore", desc := "(I)Z" } : Jvm.MethodName)) ∈ wA := inC8 172 rfl (by decide +kernel)
theorem q_1853 : (Jvm.Cond.instanceMethod ({ cls := "FourSledgeModel", name := "restore", desc := "(I)Z" } : Jvm.MethodName)) ∈ wA := inC8 173 rfl (by decide +kernel)
theorem q_1854 : (Jvm.Cond.selects "FourSledgeModel" ({ cls := "FourSledgeModel", name := "restore", desc := "(I)Z" } : Jvm.MethodName) ({ cls := "FourSledgeModel", name := "restore", desc := "(I)Z" } : Jvm.MethodName)) ∈ wA := inC8 174 rfl (by decide +kernel)
theorem q_1855 : (Jvm.Cond.code ({ cls := "FourSledgeModel", name := "restore", desc := "(I)Z" } : Jvm.MethodName) prog_12_method_106_code (3 : Nat) (Option.some Jvm.ClassFile.FieldType.boolean)) ∈ wA := inC8 175 rfl (by decide +kernel)
theorem q_1856 : (Jvm.Cond.methodLink "FourSledgeLaw" (183 : Nat) ({ cls := "FourSledgeModel", name := "count", desc := "(I)I" } : Jvm.MethodName)) ∈ wA := inC8 176 rfl (by decide +kernel)
theorem q_1857 : (Jvm.Cond.instanceMethod ({ cls := "FourSledgeModel", name := "count", desc := "(I)I" } : Jvm.MethodName)) ∈ wA := inC8 177 rfl (by decide +kernel)
theorem q_1858 : (Jvm.Cond.selects "FourSledgeModel" ({ cls := "FourSledgeModel", name := "count", desc := "(I)I" } : Jvm.MethodName) ({ cls := "FourSledgeModel", name := "count", desc := "(I)I" } : Jvm.MethodName)) ∈ wA := inC8 178 rfl (by decide +kernel)
theorem q_1859 : (Jvm.Cond.code ({ cls := "FourSledgeModel", name := "count", desc := "(I)I" } : Jvm.MethodName) prog_12_method_107_code (2 : Nat) (Option.some Jvm.ClassFile.FieldType.int)) ∈ wA := inC8 179 rfl (by decide +kernel)
theorem q_1875 : (Jvm.Cond.fieldLink "java/lang/String" (9 : Nat) "java/lang/String" "value" "[B") ∈ wA := inC8 195 rfl (by decide +kernel)
theorem q_1876 : (Jvm.Cond.fieldLink "java/lang/String" (15 : Nat) "java/lang/String" "coder" "B") ∈ wA := inC8 196 rfl (by decide +kernel)
theorem wV_J0_335_J0_coder_7d493 : VW RJ0 335 yJ0_coder_7d493 cJ0_coder_7d493 1 (some .byte) 0 := ⟨q_46, q_43, q_44, q_45, q_3, ⟨by decide, by decide, by decide +kernel⟩⟩
theorem wV_X6_53_J0_length_8abf5 : VW RX6 53 yJ0_length_8abf5 cJ0_length_8abf5 1 (some .int) 0 := ⟨q_42, q_39, q_40, q_41, q_3, ⟨by decide, by decide, by decide +kernel⟩⟩
theorem wV_J0_492_J0_isLatin1_aae02 : VW RJ0 492 yJ0_isLatin1_aae02 cJ0_isLatin1_aae02 1 (some .boolean) 0 := ⟨q_56, q_53, q_54, q_55, q_3, ⟨by decide, by decide, by decide +kernel⟩⟩
theorem wS_J0_1059_J3_checkIndex_8e157 : SW RJ0 1059 yJ3_checkIndex_8e157 cJ3_checkIndex_8e157 3 (some .int) 3 := ⟨q_67, q_65, q_66, q_5, ⟨by decide, by decide, by decide +kernel⟩⟩
theorem wS_J1_9_J0_checkIndex_df160 : SW RJ1 9 yJ0_checkIndex_df160 cJ0_checkIndex_df160 2 none 2 := ⟨q_62, q_60, q_61, q_3, ⟨by decide, by decide, by decide +kernel⟩⟩
theorem wS_J0_495_J1_charAt_3b067 : SW RJ0 495 yJ1_charAt_3b067 cJ1_charAt_3b067 2 (some .char) 2 := ⟨q_59, q_57, q_58, q_4, ⟨by decide, by decide, by decide +kernel⟩⟩
theorem wV_X6_58_J0_charAt_5068e : VW RX6 58 yJ0_charAt_5068e cJ0_charAt_5068e 2 (some .char) 1 := ⟨q_52, q_49, q_50, q_51, q_3, ⟨by decide, by decide, by decide +kernel⟩⟩
theorem wI_X9_11_X6_init : IW RX9 11 yX6_init cX6_init 4 0 := ⟨q_36, q_34, q_35, rfl, q_2, ⟨by decide, by decide, by decide +kernel⟩⟩
theorem wN_X5_init : NI yX5_init cX5_init 1 0 := ⟨q_143, q_142, rfl, q_7, ⟨by decide, by decide, by decide +kernel⟩⟩
theorem wN_X7_init : NI yX7_init cX7_init 1 0 := ⟨q_203, q_202, rfl, q_8, ⟨by decide, by decide, by decide +kernel⟩⟩
theorem wN_X0_init : NI yX0_init cX0_init 1 0 := ⟨q_279, q_278, rfl, q_9, ⟨by decide, by decide, by decide +kernel⟩⟩
theorem wN_X2_init : NI yX2_init cX2_init 1 0 := ⟨q_405, q_404, rfl, q_11, ⟨by decide, by decide, by decide +kernel⟩⟩
theorem wI_L_15_X9_init : IW RL 15 yX9_init cX9_init 2 0 := ⟨q_28, q_26, q_27, rfl, q_1, ⟨by decide, by decide, by decide +kernel⟩⟩
theorem wI_L_18_X10_init : IW RL 18 yX10_init cX10_init 2 0 := ⟨q_1230, q_1228, q_1229, rfl, q_14, ⟨by decide, by decide, by decide +kernel⟩⟩
theorem wV_X9_173_X5_placeOf : VW RX9 173 yX5_placeOf cX5_placeOf 2 (some .int) 1 := ⟨q_647, q_1213, q_645, q_646, q_7, ⟨by decide, by decide, by decide +kernel⟩⟩
theorem wV_L_19_X9_feed : VW RL 19 yX9_feed cX9_feed 6 (some .int) 5 := ⟨q_501, q_498, q_499, q_500, q_1, ⟨by decide, by decide, by decide +kernel⟩⟩
theorem wV_L_23_X10_feed : VW RL 23 yX10_feed cX10_feed 6 (some .int) 5 := ⟨q_1217, q_1214, q_1215, q_1216, q_14, ⟨by decide, by decide, by decide +kernel⟩⟩
theorem wV_L_24_X9_end : VW RL 24 yX9_end cX9_end 2 (some .boolean) 1 := ⟨q_513, q_510, q_511, q_512, q_1, ⟨by decide, by decide, by decide +kernel⟩⟩
theorem wV_L_28_X10_end : VW RL 28 yX10_end cX10_end 2 (some .boolean) 1 := ⟨q_1226, q_1223, q_1224, q_1225, q_14, ⟨by decide, by decide, by decide +kernel⟩⟩
theorem wV_L_29_X9_course : VW RL 29 yX9_course cX9_course 3 (some .int) 0 := ⟨q_517, q_514, q_515, q_516, q_1, ⟨by decide, by decide, by decide +kernel⟩⟩
theorem wV_L_33_X10_course : VW RL 33 yX10_course cX10_course 2 (some .int) 0 := ⟨q_1467, q_1464, q_1465, q_1466, q_14, ⟨by decide, by decide, by decide +kernel⟩⟩
theorem wV_L_34_X9_plan : VW RL 34 yX9_plan cX9_plan 2 (some .int) 0 := ⟨q_617, q_614, q_615, q_616, q_1, ⟨by decide, by decide, by decide +kernel⟩⟩
theorem wV_L_37_X10_plan : VW RL 37 yX10_plan cX10_plan 3 (some .int) 0 := ⟨q_1543, q_1540, q_1541, q_1542, q_14, ⟨by decide, by decide, by decide +kernel⟩⟩
theorem wV_L_38_X9_fault : VW RL 38 yX9_fault cX9_fault 1 (some .int) 0 := ⟨q_681, q_678, q_679, q_680, q_1, ⟨by decide, by decide, by decide +kernel⟩⟩
theorem wV_L_41_X10_fault : VW RL 41 yX10_fault cX10_fault 1 (some .int) 0 := ⟨q_1539, q_1536, q_1537, q_1538, q_14, ⟨by decide, by decide, by decide +kernel⟩⟩
theorem wV_L_47_X10_man : VW RL 47 yX10_man cX10_man 4 (some .int) 2 := ⟨q_1559, q_1556, q_1557, q_1558, q_14, ⟨by decide, by decide, by decide +kernel⟩⟩
theorem wV_L_48_X9_bend : VW RL 48 yX9_bend cX9_bend 3 (some .int) 2 := ⟨q_747, q_744, q_745, q_746, q_1, ⟨by decide, by decide, by decide +kernel⟩⟩
theorem wV_L_51_X10_bend : VW RL 51 yX10_bend cX10_bend 3 (some .int) 2 := ⟨q_1575, q_1572, q_1573, q_1574, q_14, ⟨by decide, by decide, by decide +kernel⟩⟩
theorem wV_L_52_X9_runner : VW RL 52 yX9_runner cX9_runner 3 (some .int) 2 := ⟨q_751, q_748, q_749, q_750, q_1, ⟨by decide, by decide, by decide +kernel⟩⟩
theorem wV_L_55_X10_runner : VW RL 55 yX10_runner cX10_runner 3 (some .int) 2 := ⟨q_1583, q_1580, q_1581, q_1582, q_14, ⟨by decide, by decide, by decide +kernel⟩⟩
theorem wV_L_56_X9_start : VW RL 56 yX9_start cX9_start 2 (some .int) 1 := ⟨q_766, q_763, q_764, q_765, q_1, ⟨by decide, by decide, by decide +kernel⟩⟩
theorem wV_L_60_X10_start : VW RL 60 yX10_start cX10_start 2 (some .int) 1 := ⟨q_1598, q_1595, q_1596, q_1597, q_14, ⟨by decide, by decide, by decide +kernel⟩⟩
theorem wV_L_61_X9_pace : VW RL 61 yX9_pace cX9_pace 2 (some .int) 1 := ⟨q_825, q_822, q_823, q_824, q_1, ⟨by decide, by decide, by decide +kernel⟩⟩
theorem wV_L_64_X10_pace : VW RL 64 yX10_pace cX10_pace 2 (some .int) 1 := ⟨q_1633, q_1630, q_1631, q_1632, q_14, ⟨by decide, by decide, by decide +kernel⟩⟩
theorem wV_L_65_X9_jumps : VW RL 65 yX9_jumps cX9_jumps 2 (some .int) 1 := ⟨q_829, q_826, q_827, q_828, q_1, ⟨by decide, by decide, by decide +kernel⟩⟩
theorem wV_L_68_X10_jumps : VW RL 68 yX10_jumps cX10_jumps 2 (some .int) 1 := ⟨q_1637, q_1634, q_1635, q_1636, q_14, ⟨by decide, by decide, by decide +kernel⟩⟩
theorem wV_L_69_X9_run : VW RL 69 yX9_run cX9_run 2 (some .int) 1 := ⟨q_833, q_830, q_831, q_832, q_1, ⟨by decide, by decide, by decide +kernel⟩⟩
theorem wV_L_72_X10_run : VW RL 72 yX10_run cX10_run 3 (some .int) 1 := ⟨q_1641, q_1638, q_1639, q_1640, q_14, ⟨by decide, by decide, by decide +kernel⟩⟩
theorem wV_L_73_X9_behind : VW RL 73 yX9_behind cX9_behind 2 (some .int) 1 := ⟨q_837, q_834, q_835, q_836, q_1, ⟨by decide, by decide, by decide +kernel⟩⟩
theorem wV_L_76_X10_behind : VW RL 76 yX10_behind cX10_behind 2 (some .int) 1 := ⟨q_1661, q_1658, q_1659, q_1660, q_14, ⟨by decide, by decide, by decide +kernel⟩⟩
theorem wV_L_77_X9_jump : VW RL 77 yX9_jump cX9_jump 3 (some .boolean) 2 := ⟨q_845, q_842, q_843, q_844, q_1, ⟨by decide, by decide, by decide +kernel⟩⟩
theorem wV_L_81_X10_jump : VW RL 81 yX10_jump cX10_jump 3 (some .boolean) 2 := ⟨q_1669, q_1666, q_1667, q_1668, q_14, ⟨by decide, by decide, by decide +kernel⟩⟩
theorem wV_L_82_X9_high : VW RL 82 yX9_high cX9_high 3 (some .boolean) 2 := ⟨q_853, q_850, q_851, q_852, q_1, ⟨by decide, by decide, by decide +kernel⟩⟩
theorem wV_L_85_X10_high : VW RL 85 yX10_high cX10_high 3 (some .boolean) 2 := ⟨q_1681, q_1678, q_1679, q_1680, q_14, ⟨by decide, by decide, by decide +kernel⟩⟩
theorem wV_L_86_X9_set : VW RL 86 yX9_set cX9_set 3 (some .boolean) 2 := ⟨q_857, q_854, q_855, q_856, q_1, ⟨by decide, by decide, by decide +kernel⟩⟩
theorem wV_L_89_X10_set : VW RL 89 yX10_set cX10_set 3 (some .boolean) 2 := ⟨q_1685, q_1682, q_1683, q_1684, q_14, ⟨by decide, by decide, by decide +kernel⟩⟩
theorem wV_L_90_X9_swap : VW RL 90 yX9_swap cX9_swap 5 (some .boolean) 2 := ⟨q_876, q_873, q_874, q_875, q_1, ⟨by decide, by decide, by decide +kernel⟩⟩
theorem wV_L_93_X10_swap : VW RL 93 yX10_swap cX10_swap 5 (some .boolean) 2 := ⟨q_1689, q_1686, q_1687, q_1688, q_14, ⟨by decide, by decide, by decide +kernel⟩⟩
theorem wV_L_94_X9_undo : VW RL 94 yX9_undo cX9_undo 1 (some .int) 0 := ⟨q_880, q_877, q_878, q_879, q_1, ⟨by decide, by decide, by decide +kernel⟩⟩
theorem wV_L_97_X10_undo : VW RL 97 yX10_undo cX10_undo 2 (some .int) 0 := ⟨q_1665, q_1662, q_1663, q_1664, q_14, ⟨by decide, by decide, by decide +kernel⟩⟩
theorem wV_L_98_X9_best : VW RL 98 yX9_best cX9_best 3 (some .int) 0 := ⟨q_893, q_890, q_891, q_892, q_1, ⟨by decide, by decide, by decide +kernel⟩⟩
theorem wV_L_101_X10_best : VW RL 101 yX10_best cX10_best 5 (some .int) 0 := ⟨q_1693, q_1690, q_1691, q_1692, q_14, ⟨by decide, by decide, by decide +kernel⟩⟩
theorem wV_L_102_X9_when : VW RL 102 yX9_when cX9_when 2 (some .int) 1 := ⟨q_992, q_989, q_990, q_991, q_1, ⟨by decide, by decide, by decide +kernel⟩⟩
theorem wV_L_105_X10_when : VW RL 105 yX10_when cX10_when 2 (some .int) 1 := ⟨q_1717, q_1714, q_1715, q_1716, q_14, ⟨by decide, by decide, by decide +kernel⟩⟩
theorem wV_L_106_X9_line : VW RL 106 yX9_line cX9_line 2 (some .int) 0 := ⟨q_1000, q_997, q_998, q_999, q_1, ⟨by decide, by decide, by decide +kernel⟩⟩
theorem wV_L_109_X10_line : VW RL 109 yX10_line cX10_line 7 (some .int) 0 := ⟨q_1721, q_1718, q_1719, q_1720, q_14, ⟨by decide, by decide, by decide +kernel⟩⟩
theorem wV_L_110_X9_height : VW RL 110 yX9_height cX9_height 2 (some .int) 1 := ⟨q_1044, q_1041, q_1042, q_1043, q_1, ⟨by decide, by decide, by decide +kernel⟩⟩
theorem wV_L_113_X10_height : VW RL 113 yX10_height cX10_height 2 (some .int) 1 := ⟨q_1732, q_1729, q_1730, q_1731, q_14, ⟨by decide, by decide, by decide +kernel⟩⟩
theorem wV_L_114_X9_take : VW RL 114 yX9_take cX9_take 2 (some .boolean) 1 := ⟨q_884, q_881, q_882, q_883, q_1, ⟨by decide, by decide, by decide +kernel⟩⟩
theorem wV_L_117_X10_take : VW RL 117 yX10_take cX10_take 4 (some .boolean) 1 := ⟨q_1736, q_1733, q_1734, q_1735, q_14, ⟨by decide, by decide, by decide +kernel⟩⟩
theorem wV_L_118_X9_four : VW RL 118 yX9_four cX9_four 9 (some .int) 0 := ⟨q_1048, q_1045, q_1046, q_1047, q_1, ⟨by decide, by decide, by decide +kernel⟩⟩
theorem wV_L_121_X10_four : VW RL 121 yX10_four cX10_four 6 (some .int) 0 := ⟨q_1740, q_1737, q_1738, q_1739, q_14, ⟨by decide, by decide, by decide +kernel⟩⟩
theorem wV_L_122_X9_kilo : VW RL 122 yX9_kilo cX9_kilo 2 (some .int) 1 := ⟨q_1056, q_1053, q_1054, q_1055, q_1, ⟨by decide, by decide, by decide +kernel⟩⟩
theorem wV_L_125_X10_kilo : VW RL 125 yX10_kilo cX10_kilo 2 (some .int) 1 := ⟨q_1755, q_1752, q_1753, q_1754, q_14, ⟨by decide, by decide, by decide +kernel⟩⟩
theorem wV_L_126_X9_runners : VW RL 126 yX9_runners cX9_runners 5 (some .int) 0 := ⟨q_1064, q_1061, q_1062, q_1063, q_1, ⟨by decide, by decide, by decide +kernel⟩⟩
theorem wV_L_129_X10_runners : VW RL 129 yX10_runners cX10_runners 5 (some .int) 0 := ⟨q_1767, q_1764, q_1765, q_1766, q_14, ⟨by decide, by decide, by decide +kernel⟩⟩
theorem wV_L_130_X9_runs : VW RL 130 yX9_runs cX9_runs 6 (some .int) 0 := ⟨q_1068, q_1065, q_1066, q_1067, q_1, ⟨by decide, by decide, by decide +kernel⟩⟩
theorem wV_L_133_X10_runs : VW RL 133 yX10_runs cX10_runs 4 (some .int) 0 := ⟨q_1771, q_1768, q_1769, q_1770, q_14, ⟨by decide, by decide, by decide +kernel⟩⟩
theorem wV_L_134_X9_worth : VW RL 134 yX9_worth cX9_worth 3 (some .int) 2 := ⟨q_1080, q_1077, q_1078, q_1079, q_1, ⟨by decide, by decide, by decide +kernel⟩⟩
theorem wV_L_137_X10_worth : VW RL 137 yX10_worth cX10_worth 3 (some .int) 2 := ⟨q_1779, q_1776, q_1777, q_1778, q_14, ⟨by decide, by decide, by decide +kernel⟩⟩
theorem wV_L_138_X9_keep : VW RL 138 yX9_keep cX9_keep 1 (some .boolean) 0 := ⟨q_1084, q_1081, q_1082, q_1083, q_1, ⟨by decide, by decide, by decide +kernel⟩⟩
theorem wV_L_142_X10_keep : VW RL 142 yX10_keep cX10_keep 2 (some .boolean) 0 := ⟨q_1783, q_1780, q_1781, q_1782, q_14, ⟨by decide, by decide, by decide +kernel⟩⟩
theorem wV_L_143_X9_lost : VW RL 143 yX9_lost cX9_lost 10 (some .int) 1 := ⟨q_1088, q_1085, q_1086, q_1087, q_1, ⟨by decide, by decide, by decide +kernel⟩⟩
theorem wV_L_146_X10_lost : VW RL 146 yX10_lost cX10_lost 11 (some .int) 1 := ⟨q_1787, q_1784, q_1785, q_1786, q_14, ⟨by decide, by decide, by decide +kernel⟩⟩
theorem wV_L_147_X9_touch : VW RL 147 yX9_touch cX9_touch 3 (some .int) 2 := ⟨q_1093, q_1090, q_1091, q_1092, q_1, ⟨by decide, by decide, by decide +kernel⟩⟩
theorem wV_L_150_X10_touch : VW RL 150 yX10_touch cX10_touch 5 (some .int) 2 := ⟨q_1791, q_1788, q_1789, q_1790, q_14, ⟨by decide, by decide, by decide +kernel⟩⟩
theorem wV_L_151_X9_drawn : VW RL 151 yX9_drawn cX9_drawn 2 (some .int) 1 := ⟨q_1102, q_1099, q_1100, q_1101, q_1, ⟨by decide, by decide, by decide +kernel⟩⟩
theorem wV_L_154_X10_drawn : VW RL 154 yX10_drawn cX10_drawn 2 (some .int) 1 := ⟨q_1795, q_1792, q_1793, q_1794, q_14, ⟨by decide, by decide, by decide +kernel⟩⟩
theorem wV_L_155_X9_odds : VW RL 155 yX9_odds cX9_odds 7 (some .int) 3 := ⟨q_1110, q_1107, q_1108, q_1109, q_1, ⟨by decide, by decide, by decide +kernel⟩⟩
theorem wV_L_159_X10_odds : VW RL 159 yX10_odds cX10_odds 7 (some .int) 3 := ⟨q_1803, q_1800, q_1801, q_1802, q_14, ⟨by decide, by decide, by decide +kernel⟩⟩
theorem wV_L_160_X9_room : VW RL 160 yX9_room cX9_room 2 (some .int) 0 := ⟨q_841, q_838, q_839, q_840, q_1, ⟨by decide, by decide, by decide +kernel⟩⟩
theorem wV_L_163_X10_room : VW RL 163 yX10_room cX10_room 2 (some .int) 0 := ⟨q_1807, q_1804, q_1805, q_1806, q_14, ⟨by decide, by decide, by decide +kernel⟩⟩
theorem wV_L_164_X9_sentence : VW RL 164 yX9_sentence cX9_sentence 3 (some .int) 0 := ⟨q_685, q_682, q_683, q_684, q_1, ⟨by decide, by decide, by decide +kernel⟩⟩
theorem wV_L_167_X10_sentence : VW RL 167 yX10_sentence cX10_sentence 3 (some .int) 0 := ⟨q_1811, q_1808, q_1809, q_1810, q_14, ⟨by decide, by decide, by decide +kernel⟩⟩
theorem wV_L_168_X9_said : VW RL 168 yX9_said cX9_said 5 (some .int) 1 := ⟨q_1114, q_1111, q_1112, q_1113, q_1, ⟨by decide, by decide, by decide +kernel⟩⟩
theorem wV_L_171_X10_said : VW RL 171 yX10_said cX10_said 4 (some .int) 1 := ⟨q_1839, q_1836, q_1837, q_1838, q_14, ⟨by decide, by decide, by decide +kernel⟩⟩
theorem wV_L_172_X9_image : VW RL 172 yX9_image cX9_image 3 (some .boolean) 1 := ⟨q_1135, q_1132, q_1133, q_1134, q_1, ⟨by decide, by decide, by decide +kernel⟩⟩
theorem wV_L_175_X10_image : VW RL 175 yX10_image cX10_image 3 (some .boolean) 1 := ⟨q_1851, q_1848, q_1849, q_1850, q_14, ⟨by decide, by decide, by decide +kernel⟩⟩
theorem wV_L_176_X9_restore : VW RL 176 yX9_restore cX9_restore 3 (some .boolean) 1 := ⟨q_1139, q_1136, q_1137, q_1138, q_1, ⟨by decide, by decide, by decide +kernel⟩⟩
theorem wV_L_179_X10_restore : VW RL 179 yX10_restore cX10_restore 3 (some .boolean) 1 := ⟨q_1855, q_1852, q_1853, q_1854, q_14, ⟨by decide, by decide, by decide +kernel⟩⟩
theorem wV_L_180_X9_count : VW RL 180 yX9_count cX9_count 2 (some .int) 1 := ⟨q_762, q_759, q_760, q_761, q_1, ⟨by decide, by decide, by decide +kernel⟩⟩
theorem wV_L_183_X10_count : VW RL 183 yX10_count cX10_count 2 (some .int) 1 := ⟨q_1859, q_1856, q_1857, q_1858, q_14, ⟨by decide, by decide, by decide +kernel⟩⟩
theorem DL_man_0 : (decode cL_man 0 = .ok (.aload_n 3, 1)) ∧ (decode cL_man 1 = .ok (.iconst 0, 1)) ∧ (decode cL_man 2 = .ok (.aload_n 0, 1)) ∧ (decode cL_man 3 = .ok (.iload_n 1, 1)) ∧ (decode cL_man 4 = .ok (.iload_n 2, 1)) ∧ (decode cL_man 5 = .ok (.invokevirtual 7, 3)) ∧ (decode cL_man 8 = .ok (.i2l, 1)) ∧ (decode cL_man 9 = .ok (.lastore, 1)) ∧ (decode cL_man 10 = .ok (.goto 7, 3)) ∧ (decode cL_man 13 = .ok (.astore 4, 2)) ∧ (decode cL_man 15 = .ok (.iconst 1, 1)) ∧ (decode cL_man 16 = .ok (.ireturn, 1)) ∧ (decode cL_man 17 = .ok (.iconst 0, 1)) ∧ (decode cL_man 18 = .ok (.ireturn, 1)) := by decide +kernel
theorem dL_man_0 : decode cL_man 0 = .ok (.aload_n 3, 1) := DL_man_0.1
theorem dL_man_1 : decode cL_man 1 = .ok (.iconst 0, 1) := DL_man_0.2.1
theorem dL_man_2 : decode cL_man 2 = .ok (.aload_n 0, 1) := DL_man_0.2.2.1
theorem dL_man_3 : decode cL_man 3 = .ok (.iload_n 1, 1) := DL_man_0.2.2.2.1
theorem dL_man_4 : decode cL_man 4 = .ok (.iload_n 2, 1) := DL_man_0.2.2.2.2.1
theorem dL_man_5 : decode cL_man 5 = .ok (.invokevirtual 7, 3) := DL_man_0.2.2.2.2.2.1
theorem dL_man_8 : decode cL_man 8 = .ok (.i2l, 1) := DL_man_0.2.2.2.2.2.2.1
theorem dL_man_9 : decode cL_man 9 = .ok (.lastore, 1) := DL_man_0.2.2.2.2.2.2.2.1
theorem dL_man_10 : decode cL_man 10 = .ok (.goto 7, 3) := DL_man_0.2.2.2.2.2.2.2.2.1
theorem dL_man_13 : decode cL_man 13 = .ok (.astore 4, 2) := DL_man_0.2.2.2.2.2.2.2.2.2.1
theorem dL_man_15 : decode cL_man 15 = .ok (.iconst 1, 1) := DL_man_0.2.2.2.2.2.2.2.2.2.2.1
theorem dL_man_16 : decode cL_man 16 = .ok (.ireturn, 1) := DL_man_0.2.2.2.2.2.2.2.2.2.2.2.1
theorem dL_man_17 : decode cL_man 17 = .ok (.iconst 0, 1) := DL_man_0.2.2.2.2.2.2.2.2.2.2.2.2.1
theorem dL_man_18 : decode cL_man 18 = .ok (.ireturn, 1) := DL_man_0.2.2.2.2.2.2.2.2.2.2.2.2.2
theorem DL_law_0 : (decode cL_law 0 = .ok (.new 8, 3)) ∧ (decode cL_law 3 = .ok (.dup, 1)) ∧ (decode cL_law 4 = .ok (.invokespecial 15, 3)) ∧ (decode cL_law 7 = .ok (.astore_n 1, 1)) ∧ (decode cL_law 8 = .ok (.new 16, 3)) ∧ (decode cL_law 11 = .ok (.dup, 1)) ∧ (decode cL_law 12 = .ok (.invokespecial 18, 3)) ∧ (decode cL_law 15 = .ok (.astore_n 2, 1)) ∧ (decode cL_law 16 = .ok (.iconst 1, 1)) ∧ (decode cL_law 17 = .ok (.newarray .long, 2)) ∧ (decode cL_law 19 = .ok (.astore_n 3, 1)) ∧ (decode cL_law 20 = .ok (.iconst 0, 1)) ∧ (decode cL_law 21 = .ok (.istore 4, 2)) ∧ (decode cL_law 23 = .ok (.iload 4, 2)) ∧ (decode cL_law 25 = .ok (.aload_n 0, 1)) ∧ (decode cL_law 26 = .ok (.arraylength, 1)) ∧ (decode cL_law 27 = .ok (.bipush 6, 2)) ∧ (decode cL_law 29 = .ok (.isub, 1)) ∧ (decode cL_law 30 = .ok (.if_icmp .gt 1202, 3)) ∧ (decode cL_law 33 = .ok (.aload_n 0, 1)) ∧ (decode cL_law 34 = .ok (.iload 4, 2)) ∧ (decode cL_law 36 = .ok (.iaload, 1)) ∧ (decode cL_law 37 = .ok (.bipush 63, 2)) ∧ (decode cL_law 39 = .ok (.iand, 1)) := by decide +kernel
theorem dL_law_0 : decode cL_law 0 = .ok (.new 8, 3) := DL_law_0.1
theorem dL_law_3 : decode cL_law 3 = .ok (.dup, 1) := DL_law_0.2.1
theorem dL_law_4 : decode cL_law 4 = .ok (.invokespecial 15, 3) := DL_law_0.2.2.1
theorem dL_law_7 : decode cL_law 7 = .ok (.astore_n 1, 1) := DL_law_0.2.2.2.1
theorem dL_law_8 : decode cL_law 8 = .ok (.new 16, 3) := DL_law_0.2.2.2.2.1
theorem dL_law_11 : decode cL_law 11 = .ok (.dup, 1) := DL_law_0.2.2.2.2.2.1
theorem dL_law_12 : decode cL_law 12 = .ok (.invokespecial 18, 3) := DL_law_0.2.2.2.2.2.2.1
theorem dL_law_15 : decode cL_law 15 = .ok (.astore_n 2, 1) := DL_law_0.2.2.2.2.2.2.2.1
theorem dL_law_16 : decode cL_law 16 = .ok (.iconst 1, 1) := DL_law_0.2.2.2.2.2.2.2.2.1
theorem dL_law_17 : decode cL_law 17 = .ok (.newarray .long, 2) := DL_law_0.2.2.2.2.2.2.2.2.2.1
theorem dL_law_19 : decode cL_law 19 = .ok (.astore_n 3, 1) := DL_law_0.2.2.2.2.2.2.2.2.2.2.1
theorem dL_law_20 : decode cL_law 20 = .ok (.iconst 0, 1) := DL_law_0.2.2.2.2.2.2.2.2.2.2.2.1
theorem dL_law_21 : decode cL_law 21 = .ok (.istore 4, 2) := DL_law_0.2.2.2.2.2.2.2.2.2.2.2.2.1
theorem dL_law_23 : decode cL_law 23 = .ok (.iload 4, 2) := DL_law_0.2.2.2.2.2.2.2.2.2.2.2.2.2.1
theorem dL_law_25 : decode cL_law 25 = .ok (.aload_n 0, 1) := DL_law_0.2.2.2.2.2.2.2.2.2.2.2.2.2.2.1
theorem dL_law_26 : decode cL_law 26 = .ok (.arraylength, 1) := DL_law_0.2.2.2.2.2.2.2.2.2.2.2.2.2.2.2.1
theorem dL_law_27 : decode cL_law 27 = .ok (.bipush 6, 2) := DL_law_0.2.2.2.2.2.2.2.2.2.2.2.2.2.2.2.2.1
theorem dL_law_29 : decode cL_law 29 = .ok (.isub, 1) := DL_law_0.2.2.2.2.2.2.2.2.2.2.2.2.2.2.2.2.2.1
theorem dL_law_30 : decode cL_law 30 = .ok (.if_icmp .gt 1202, 3) := DL_law_0.2.2.2.2.2.2.2.2.2.2.2.2.2.2.2.2.2.2.1
theorem dL_law_33 : decode cL_law 33 = .ok (.aload_n 0, 1) := DL_law_0.2.2.2.2.2.2.2.2.2.2.2.2.2.2.2.2.2.2.2.1
theorem dL_law_34 : decode cL_law 34 = .ok (.iload 4, 2) := DL_law_0.2.2.2.2.2.2.2.2.2.2.2.2.2.2.2.2.2.2.2.2.1
theorem dL_law_36 : decode cL_law 36 = .ok (.iaload, 1) := DL_law_0.2.2.2.2.2.2.2.2.2.2.2.2.2.2.2.2.2.2.2.2.2.1
theorem dL_law_37 : decode cL_law 37 = .ok (.bipush 63, 2) := DL_law_0.2.2.2.2.2.2.2.2.2.2.2.2.2.2.2.2.2.2.2.2.2.2.1
theorem dL_law_39 : decode cL_law 39 = .ok (.iand, 1) := DL_law_0.2.2.2.2.2.2.2.2.2.2.2.2.2.2.2.2.2.2.2.2.2.2.2
theorem DL_law_40 : (decode cL_law 40 = .ok (.tableswitch 1186 0 38 #[172, 245, 270, 283, 296, 309, 349, 386, 423, 448, 473, 498, 523, 548, 585, 622, 659, 696, 709, 722, 747, 760, 785, 810, 823, 848, 861, 874, 911, 924, 949, 986, 1011, 1060, 1073, 1086, 1111, 1136, 1161], 172)) ∧ (decode cL_law 212 = .ok (.aload_n 1, 1)) ∧ (decode cL_law 213 = .ok (.aload_n 0, 1)) ∧ (decode cL_law 214 = .ok (.iload 4, 2)) ∧ (decode cL_law 216 = .ok (.iconst 1, 1)) ∧ (decode cL_law 217 = .ok (.iadd, 1)) ∧ (decode cL_law 218 = .ok (.iaload, 1)) ∧ (decode cL_law 219 = .ok (.aload_n 0, 1)) ∧ (decode cL_law 220 = .ok (.iload 4, 2)) ∧ (decode cL_law 222 = .ok (.iconst 2, 1)) ∧ (decode cL_law 223 = .ok (.iadd, 1)) ∧ (decode cL_law 224 = .ok (.iaload, 1)) ∧ (decode cL_law 225 = .ok (.aload_n 0, 1)) ∧ (decode cL_law 226 = .ok (.iload 4, 2)) ∧ (decode cL_law 228 = .ok (.iconst 3, 1)) ∧ (decode cL_law 229 = .ok (.iadd, 1)) ∧ (decode cL_law 230 = .ok (.iaload, 1)) ∧ (decode cL_law 231 = .ok (.aload_n 0, 1)) ∧ (decode cL_law 232 = .ok (.iload 4, 2)) ∧ (decode cL_law 234 = .ok (.iconst 4, 1)) ∧ (decode cL_law 235 = .ok (.iadd, 1)) ∧ (decode cL_law 236 = .ok (.iaload, 1)) ∧ (decode cL_law 237 = .ok (.aload_n 0, 1)) ∧ (decode cL_law 238 = .ok (.iload 4, 2)) := by decide +kernel
theorem dL_law_40 : decode cL_law 40 = .ok (.tableswitch 1186 0 38 #[172, 245, 270, 283, 296, 309, 349, 386, 423, 448, 473, 498, 523, 548, 585, 622, 659, 696, 709, 722, 747, 760, 785, 810, 823, 848, 861, 874, 911, 924, 949, 986, 1011, 1060, 1073, 1086, 1111, 1136, 1161], 172) := DL_law_40.1
theorem dL_law_212 : decode cL_law 212 = .ok (.aload_n 1, 1) := DL_law_40.2.1
theorem dL_law_213 : decode cL_law 213 = .ok (.aload_n 0, 1) := DL_law_40.2.2.1
theorem dL_law_214 : decode cL_law 214 = .ok (.iload 4, 2) := DL_law_40.2.2.2.1
theorem dL_law_216 : decode cL_law 216 = .ok (.iconst 1, 1) := DL_law_40.2.2.2.2.1
theorem dL_law_217 : decode cL_law 217 = .ok (.iadd, 1) := DL_law_40.2.2.2.2.2.1
theorem dL_law_218 : decode cL_law 218 = .ok (.iaload, 1) := DL_law_40.2.2.2.2.2.2.1
theorem dL_law_219 : decode cL_law 219 = .ok (.aload_n 0, 1) := DL_law_40.2.2.2.2.2.2.2.1
theorem dL_law_220 : decode cL_law 220 = .ok (.iload 4, 2) := DL_law_40.2.2.2.2.2.2.2.2.1
theorem dL_law_222 : decode cL_law 222 = .ok (.iconst 2, 1) := DL_law_40.2.2.2.2.2.2.2.2.2.1
theorem dL_law_223 : decode cL_law 223 = .ok (.iadd, 1) := DL_law_40.2.2.2.2.2.2.2.2.2.2.1
theorem dL_law_224 : decode cL_law 224 = .ok (.iaload, 1) := DL_law_40.2.2.2.2.2.2.2.2.2.2.2.1
theorem dL_law_225 : decode cL_law 225 = .ok (.aload_n 0, 1) := DL_law_40.2.2.2.2.2.2.2.2.2.2.2.2.1
theorem dL_law_226 : decode cL_law 226 = .ok (.iload 4, 2) := DL_law_40.2.2.2.2.2.2.2.2.2.2.2.2.2.1
theorem dL_law_228 : decode cL_law 228 = .ok (.iconst 3, 1) := DL_law_40.2.2.2.2.2.2.2.2.2.2.2.2.2.2.1
theorem dL_law_229 : decode cL_law 229 = .ok (.iadd, 1) := DL_law_40.2.2.2.2.2.2.2.2.2.2.2.2.2.2.2.1
theorem dL_law_230 : decode cL_law 230 = .ok (.iaload, 1) := DL_law_40.2.2.2.2.2.2.2.2.2.2.2.2.2.2.2.2.1
theorem dL_law_231 : decode cL_law 231 = .ok (.aload_n 0, 1) := DL_law_40.2.2.2.2.2.2.2.2.2.2.2.2.2.2.2.2.2.1
theorem dL_law_232 : decode cL_law 232 = .ok (.iload 4, 2) := DL_law_40.2.2.2.2.2.2.2.2.2.2.2.2.2.2.2.2.2.2.1
theorem dL_law_234 : decode cL_law 234 = .ok (.iconst 4, 1) := DL_law_40.2.2.2.2.2.2.2.2.2.2.2.2.2.2.2.2.2.2.2.1
theorem dL_law_235 : decode cL_law 235 = .ok (.iadd, 1) := DL_law_40.2.2.2.2.2.2.2.2.2.2.2.2.2.2.2.2.2.2.2.2.1
theorem dL_law_236 : decode cL_law 236 = .ok (.iaload, 1) := DL_law_40.2.2.2.2.2.2.2.2.2.2.2.2.2.2.2.2.2.2.2.2.2.1
theorem dL_law_237 : decode cL_law 237 = .ok (.aload_n 0, 1) := DL_law_40.2.2.2.2.2.2.2.2.2.2.2.2.2.2.2.2.2.2.2.2.2.2.1
theorem dL_law_238 : decode cL_law 238 = .ok (.iload 4, 2) := DL_law_40.2.2.2.2.2.2.2.2.2.2.2.2.2.2.2.2.2.2.2.2.2.2.2
theorem DL_law_240 : (decode cL_law 240 = .ok (.iconst 5, 1)) ∧ (decode cL_law 241 = .ok (.iadd, 1)) ∧ (decode cL_law 242 = .ok (.iaload, 1)) ∧ (decode cL_law 243 = .ok (.invokevirtual 19, 3)) ∧ (decode cL_law 246 = .ok (.aload_n 2, 1)) ∧ (decode cL_law 247 = .ok (.aload_n 0, 1)) ∧ (decode cL_law 248 = .ok (.iload 4, 2)) ∧ (decode cL_law 250 = .ok (.iconst 1, 1)) ∧ (decode cL_law 251 = .ok (.iadd, 1)) ∧ (decode cL_law 252 = .ok (.iaload, 1)) ∧ (decode cL_law 253 = .ok (.aload_n 0, 1)) ∧ (decode cL_law 254 = .ok (.iload 4, 2)) ∧ (decode cL_law 256 = .ok (.iconst 2, 1)) ∧ (decode cL_law 257 = .ok (.iadd, 1)) ∧ (decode cL_law 258 = .ok (.iaload, 1)) ∧ (decode cL_law 259 = .ok (.aload_n 0, 1)) ∧ (decode cL_law 260 = .ok (.iload 4, 2)) ∧ (decode cL_law 262 = .ok (.iconst 3, 1)) ∧ (decode cL_law 263 = .ok (.iadd, 1)) ∧ (decode cL_law 264 = .ok (.iaload, 1)) ∧ (decode cL_law 265 = .ok (.aload_n 0, 1)) ∧ (decode cL_law 266 = .ok (.iload 4, 2)) ∧ (decode cL_law 268 = .ok (.iconst 4, 1)) ∧ (decode cL_law 269 = .ok (.iadd, 1)) := by decide +kernel
theorem dL_law_240 : decode cL_law 240 = .ok (.iconst 5, 1) := DL_law_240.1
theorem dL_law_241 : decode cL_law 241 = .ok (.iadd, 1) := DL_law_240.2.1
theorem dL_law_242 : decode cL_law 242 = .ok (.iaload, 1) := DL_law_240.2.2.1
theorem dL_law_243 : decode cL_law 243 = .ok (.invokevirtual 19, 3) := DL_law_240.2.2.2.1
theorem dL_law_246 : decode cL_law 246 = .ok (.aload_n 2, 1) := DL_law_240.2.2.2.2.1
theorem dL_law_247 : decode cL_law 247 = .ok (.aload_n 0, 1) := DL_law_240.2.2.2.2.2.1
theorem dL_law_248 : decode cL_law 248 = .ok (.iload 4, 2) := DL_law_240.2.2.2.2.2.2.1
theorem dL_law_250 : decode cL_law 250 = .ok (.iconst 1, 1) := DL_law_240.2.2.2.2.2.2.2.1
theorem dL_law_251 : decode cL_law 251 = .ok (.iadd, 1) := DL_law_240.2.2.2.2.2.2.2.2.1
theorem dL_law_252 : decode cL_law 252 = .ok (.iaload, 1) := DL_law_240.2.2.2.2.2.2.2.2.2.1
theorem dL_law_253 : decode cL_law 253 = .ok (.aload_n 0, 1) := DL_law_240.2.2.2.2.2.2.2.2.2.2.1
theorem dL_law_254 : decode cL_law 254 = .ok (.iload 4, 2) := DL_law_240.2.2.2.2.2.2.2.2.2.2.2.1
theorem dL_law_256 : decode cL_law 256 = .ok (.iconst 2, 1) := DL_law_240.2.2.2.2.2.2.2.2.2.2.2.2.1
theorem dL_law_257 : decode cL_law 257 = .ok (.iadd, 1) := DL_law_240.2.2.2.2.2.2.2.2.2.2.2.2.2.1
theorem dL_law_258 : decode cL_law 258 = .ok (.iaload, 1) := DL_law_240.2.2.2.2.2.2.2.2.2.2.2.2.2.2.1
theorem dL_law_259 : decode cL_law 259 = .ok (.aload_n 0, 1) := DL_law_240.2.2.2.2.2.2.2.2.2.2.2.2.2.2.2.1
theorem dL_law_260 : decode cL_law 260 = .ok (.iload 4, 2) := DL_law_240.2.2.2.2.2.2.2.2.2.2.2.2.2.2.2.2.1
theorem dL_law_262 : decode cL_law 262 = .ok (.iconst 3, 1) := DL_law_240.2.2.2.2.2.2.2.2.2.2.2.2.2.2.2.2.2.1
theorem dL_law_263 : decode cL_law 263 = .ok (.iadd, 1) := DL_law_240.2.2.2.2.2.2.2.2.2.2.2.2.2.2.2.2.2.2.1
theorem dL_law_264 : decode cL_law 264 = .ok (.iaload, 1) := DL_law_240.2.2.2.2.2.2.2.2.2.2.2.2.2.2.2.2.2.2.2.1
theorem dL_law_265 : decode cL_law 265 = .ok (.aload_n 0, 1) := DL_law_240.2.2.2.2.2.2.2.2.2.2.2.2.2.2.2.2.2.2.2.2.1
theorem dL_law_266 : decode cL_law 266 = .ok (.iload 4, 2) := DL_law_240.2.2.2.2.2.2.2.2.2.2.2.2.2.2.2.2.2.2.2.2.2.1
theorem dL_law_268 : decode cL_law 268 = .ok (.iconst 4, 1) := DL_law_240.2.2.2.2.2.2.2.2.2.2.2.2.2.2.2.2.2.2.2.2.2.2.1
theorem dL_law_269 : decode cL_law 269 = .ok (.iadd, 1) := DL_law_240.2.2.2.2.2.2.2.2.2.2.2.2.2.2.2.2.2.2.2.2.2.2.2
theorem DL_law_270 : (decode cL_law 270 = .ok (.iaload, 1)) ∧ (decode cL_law 271 = .ok (.aload_n 0, 1)) ∧ (decode cL_law 272 = .ok (.iload 4, 2)) ∧ (decode cL_law 274 = .ok (.iconst 5, 1)) ∧ (decode cL_law 275 = .ok (.iadd, 1)) ∧ (decode cL_law 276 = .ok (.iaload, 1)) ∧ (decode cL_law 277 = .ok (.invokevirtual 23, 3)) ∧ (decode cL_law 280 = .ok (.if_icmp .eq 946, 3)) ∧ (decode cL_law 283 = .ok (.iconst 0, 1)) ∧ (decode cL_law 284 = .ok (.ireturn, 1)) ∧ (decode cL_law 285 = .ok (.aload_n 1, 1)) ∧ (decode cL_law 286 = .ok (.aload_n 0, 1)) ∧ (decode cL_law 287 = .ok (.iload 4, 2)) ∧ (decode cL_law 289 = .ok (.iconst 1, 1)) ∧ (decode cL_law 290 = .ok (.iadd, 1)) ∧ (decode cL_law 291 = .ok (.iaload, 1)) ∧ (decode cL_law 292 = .ok (.invokevirtual 24, 3)) ∧ (decode cL_law 295 = .ok (.pop, 1)) ∧ (decode cL_law 296 = .ok (.aload_n 2, 1)) ∧ (decode cL_law 297 = .ok (.aload_n 0, 1)) ∧ (decode cL_law 298 = .ok (.iload 4, 2)) ∧ (decode cL_law 300 = .ok (.iconst 1, 1)) ∧ (decode cL_law 301 = .ok (.iadd, 1)) ∧ (decode cL_law 302 = .ok (.iaload, 1)) := by decide +kernel
theorem dL_law_270 : decode cL_law 270 = .ok (.iaload, 1) := DL_law_270.1
theorem dL_law_271 : decode cL_law 271 = .ok (.aload_n 0, 1) := DL_law_270.2.1
theorem dL_law_272 : decode cL_law 272 = .ok (.iload 4, 2) := DL_law_270.2.2.1
theorem dL_law_274 : decode cL_law 274 = .ok (.iconst 5, 1) := DL_law_270.2.2.2.1
theorem dL_law_275 : decode cL_law 275 = .ok (.iadd, 1) := DL_law_270.2.2.2.2.1
theorem dL_law_276 : decode cL_law 276 = .ok (.iaload, 1) := DL_law_270.2.2.2.2.2.1
theorem dL_law_277 : decode cL_law 277 = .ok (.invokevirtual 23, 3) := DL_law_270.2.2.2.2.2.2.1
theorem dL_law_280 : decode cL_law 280 = .ok (.if_icmp .eq 946, 3) := DL_law_270.2.2.2.2.2.2.2.1
theorem dL_law_283 : decode cL_law 283 = .ok (.iconst 0, 1) := DL_law_270.2.2.2.2.2.2.2.2.1
theorem dL_law_284 : decode cL_law 284 = .ok (.ireturn, 1) := DL_law_270.2.2.2.2.2.2.2.2.2.1
theorem dL_law_285 : decode cL_law 285 = .ok (.aload_n 1, 1) := DL_law_270.2.2.2.2.2.2.2.2.2.2.1
theorem dL_law_286 : decode cL_law 286 = .ok (.aload_n 0, 1) := DL_law_270.2.2.2.2.2.2.2.2.2.2.2.1
theorem dL_law_287 : decode cL_law 287 = .ok (.iload 4, 2) := DL_law_270.2.2.2.2.2.2.2.2.2.2.2.2.1
theorem dL_law_289 : decode cL_law 289 = .ok (.iconst 1, 1) := DL_law_270.2.2.2.2.2.2.2.2.2.2.2.2.2.1
theorem dL_law_290 : decode cL_law 290 = .ok (.iadd, 1) := DL_law_270.2.2.2.2.2.2.2.2.2.2.2.2.2.2.1
theorem dL_law_291 : decode cL_law 291 = .ok (.iaload, 1) := DL_law_270.2.2.2.2.2.2.2.2.2.2.2.2.2.2.2.1
theorem dL_law_292 : decode cL_law 292 = .ok (.invokevirtual 24, 3) := DL_law_270.2.2.2.2.2.2.2.2.2.2.2.2.2.2.2.2.1
theorem dL_law_295 : decode cL_law 295 = .ok (.pop, 1) := DL_law_270.2.2.2.2.2.2.2.2.2.2.2.2.2.2.2.2.2.1
theorem dL_law_296 : decode cL_law 296 = .ok (.aload_n 2, 1) := DL_law_270.2.2.2.2.2.2.2.2.2.2.2.2.2.2.2.2.2.2.1
theorem dL_law_297 : decode cL_law 297 = .ok (.aload_n 0, 1) := DL_law_270.2.2.2.2.2.2.2.2.2.2.2.2.2.2.2.2.2.2.2.1
theorem dL_law_298 : decode cL_law 298 = .ok (.iload 4, 2) := DL_law_270.2.2.2.2.2.2.2.2.2.2.2.2.2.2.2.2.2.2.2.2.1
theorem dL_law_300 : decode cL_law 300 = .ok (.iconst 1, 1) := DL_law_270.2.2.2.2.2.2.2.2.2.2.2.2.2.2.2.2.2.2.2.2.2.1
theorem dL_law_301 : decode cL_law 301 = .ok (.iadd, 1) := DL_law_270.2.2.2.2.2.2.2.2.2.2.2.2.2.2.2.2.2.2.2.2.2.2.1
theorem dL_law_302 : decode cL_law 302 = .ok (.iaload, 1) := DL_law_270.2.2.2.2.2.2.2.2.2.2.2.2.2.2.2.2.2.2.2.2.2.2.2
theorem DL_law_303 : (decode cL_law 303 = .ok (.invokevirtual 28, 3)) ∧ (decode cL_law 306 = .ok (.pop, 1)) ∧ (decode cL_law 307 = .ok (.goto 919, 3)) ∧ (decode cL_law 310 = .ok (.aload_n 1, 1)) ∧ (decode cL_law 311 = .ok (.invokevirtual 29, 3)) ∧ (decode cL_law 314 = .ok (.pop, 1)) ∧ (decode cL_law 315 = .ok (.aload_n 2, 1)) ∧ (decode cL_law 316 = .ok (.invokevirtual 33, 3)) ∧ (decode cL_law 319 = .ok (.pop, 1)) ∧ (decode cL_law 320 = .ok (.goto 906, 3)) ∧ (decode cL_law 323 = .ok (.aload_n 1, 1)) ∧ (decode cL_law 324 = .ok (.invokevirtual 34, 3)) ∧ (decode cL_law 327 = .ok (.pop, 1)) ∧ (decode cL_law 328 = .ok (.aload_n 2, 1)) ∧ (decode cL_law 329 = .ok (.invokevirtual 37, 3)) ∧ (decode cL_law 332 = .ok (.pop, 1)) ∧ (decode cL_law 333 = .ok (.goto 893, 3)) ∧ (decode cL_law 336 = .ok (.aload_n 1, 1)) ∧ (decode cL_law 337 = .ok (.invokevirtual 38, 3)) ∧ (decode cL_law 340 = .ok (.pop, 1)) ∧ (decode cL_law 341 = .ok (.aload_n 2, 1)) ∧ (decode cL_law 342 = .ok (.invokevirtual 41, 3)) ∧ (decode cL_law 345 = .ok (.pop, 1)) ∧ (decode cL_law 346 = .ok (.goto 880, 3)) := by decide +kernel
theorem dL_law_303 : decode cL_law 303 = .ok (.invokevirtual 28, 3) := DL_law_303.1
theorem dL_law_306 : decode cL_law 306 = .ok (.pop, 1) := DL_law_303.2.1
theorem dL_law_307 : decode cL_law 307 = .ok (.goto 919, 3) := DL_law_303.2.2.1
theorem dL_law_310 : decode cL_law 310 = .ok (.aload_n 1, 1) := DL_law_303.2.2.2.1
theorem dL_law_311 : decode cL_law 311 = .ok (.invokevirtual 29, 3) := DL_law_303.2.2.2.2.1
theorem dL_law_314 : decode cL_law 314 = .ok (.pop, 1) := DL_law_303.2.2.2.2.2.1
theorem dL_law_315 : decode cL_law 315 = .ok (.aload_n 2, 1) := DL_law_303.2.2.2.2.2.2.1
theorem dL_law_316 : decode cL_law 316 = .ok (.invokevirtual 33, 3) := DL_law_303.2.2.2.2.2.2.2.1
theorem dL_law_319 : decode cL_law 319 = .ok (.pop, 1) := DL_law_303.2.2.2.2.2.2.2.2.1
theorem dL_law_320 : decode cL_law 320 = .ok (.goto 906, 3) := DL_law_303.2.2.2.2.2.2.2.2.2.1
theorem dL_law_323 : decode cL_law 323 = .ok (.aload_n 1, 1) := DL_law_303.2.2.2.2.2.2.2.2.2.2.1
theorem dL_law_324 : decode cL_law 324 = .ok (.invokevirtual 34, 3) := DL_law_303.2.2.2.2.2.2.2.2.2.2.2.1
theorem dL_law_327 : decode cL_law 327 = .ok (.pop, 1) := DL_law_303.2.2.2.2.2.2.2.2.2.2.2.2.1
theorem dL_law_328 : decode cL_law 328 = .ok (.aload_n 2, 1) := DL_law_303.2.2.2.2.2.2.2.2.2.2.2.2.2.1
theorem dL_law_329 : decode cL_law 329 = .ok (.invokevirtual 37, 3) := DL_law_303.2.2.2.2.2.2.2.2.2.2.2.2.2.2.1
theorem dL_law_332 : decode cL_law 332 = .ok (.pop, 1) := DL_law_303.2.2.2.2.2.2.2.2.2.2.2.2.2.2.2.1
theorem dL_law_333 : decode cL_law 333 = .ok (.goto 893, 3) := DL_law_303.2.2.2.2.2.2.2.2.2.2.2.2.2.2.2.2.1
theorem dL_law_336 : decode cL_law 336 = .ok (.aload_n 1, 1) := DL_law_303.2.2.2.2.2.2.2.2.2.2.2.2.2.2.2.2.2.1
theorem dL_law_337 : decode cL_law 337 = .ok (.invokevirtual 38, 3) := DL_law_303.2.2.2.2.2.2.2.2.2.2.2.2.2.2.2.2.2.2.1
theorem dL_law_340 : decode cL_law 340 = .ok (.pop, 1) := DL_law_303.2.2.2.2.2.2.2.2.2.2.2.2.2.2.2.2.2.2.2.1
theorem dL_law_341 : decode cL_law 341 = .ok (.aload_n 2, 1) := DL_law_303.2.2.2.2.2.2.2.2.2.2.2.2.2.2.2.2.2.2.2.2.1
theorem dL_law_342 : decode cL_law 342 = .ok (.invokevirtual 41, 3) := DL_law_303.2.2.2.2.2.2.2.2.2.2.2.2.2.2.2.2.2.2.2.2.2.1
theorem dL_law_345 : decode cL_law 345 = .ok (.pop, 1) := DL_law_303.2.2.2.2.2.2.2.2.2.2.2.2.2.2.2.2.2.2.2.2.2.2.1
theorem dL_law_346 : decode cL_law 346 = .ok (.goto 880, 3) := DL_law_303.2.2.2.2.2.2.2.2.2.2.2.2.2.2.2.2.2.2.2.2.2.2.2
theorem DL_law_349 : (decode cL_law 349 = .ok (.aload_n 1, 1)) ∧ (decode cL_law 350 = .ok (.aload_n 0, 1)) ∧ (decode cL_law 351 = .ok (.iload 4, 2)) ∧ (decode cL_law 353 = .ok (.iconst 1, 1)) ∧ (decode cL_law 354 = .ok (.iadd, 1)) ∧ (decode cL_law 355 = .ok (.iaload, 1)) ∧ (decode cL_law 356 = .ok (.aload_n 0, 1)) ∧ (decode cL_law 357 = .ok (.iload 4, 2)) ∧ (decode cL_law 359 = .ok (.iconst 2, 1)) ∧ (decode cL_law 360 = .ok (.iadd, 1)) ∧ (decode cL_law 361 = .ok (.iaload, 1)) ∧ (decode cL_law 362 = .ok (.aload_n 3, 1)) ∧ (decode cL_law 363 = .ok (.invokestatic 42, 3)) ∧ (decode cL_law 366 = .ok (.istore 5, 2)) ∧ (decode cL_law 368 = .ok (.aload_n 2, 1)) ∧ (decode cL_law 369 = .ok (.aload_n 0, 1)) ∧ (decode cL_law 370 = .ok (.iload 4, 2)) ∧ (decode cL_law 372 = .ok (.iconst 1, 1)) ∧ (decode cL_law 373 = .ok (.iadd, 1)) ∧ (decode cL_law 374 = .ok (.iaload, 1)) ∧ (decode cL_law 375 = .ok (.aload_n 0, 1)) ∧ (decode cL_law 376 = .ok (.iload 4, 2)) ∧ (decode cL_law 378 = .ok (.iconst 2, 1)) ∧ (decode cL_law 379 = .ok (.iadd, 1)) := by decide +kernel
theorem dL_law_349 : decode cL_law 349 = .ok (.aload_n 1, 1) := DL_law_349.1
theorem dL_law_350 : decode cL_law 350 = .ok (.aload_n 0, 1) := DL_law_349.2.1
theorem dL_law_351 : decode cL_law 351 = .ok (.iload 4, 2) := DL_law_349.2.2.1
theorem dL_law_353 : decode cL_law 353 = .ok (.iconst 1, 1) := DL_law_349.2.2.2.1
theorem dL_law_354 : decode cL_law 354 = .ok (.iadd, 1) := DL_law_349.2.2.2.2.1
theorem dL_law_355 : decode cL_law 355 = .ok (.iaload, 1) := DL_law_349.2.2.2.2.2.1
theorem dL_law_356 : decode cL_law 356 = .ok (.aload_n 0, 1) := DL_law_349.2.2.2.2.2.2.1
theorem dL_law_357 : decode cL_law 357 = .ok (.iload 4, 2) := DL_law_349.2.2.2.2.2.2.2.1
theorem dL_law_359 : decode cL_law 359 = .ok (.iconst 2, 1) := DL_law_349.2.2.2.2.2.2.2.2.1
theorem dL_law_360 : decode cL_law 360 = .ok (.iadd, 1) := DL_law_349.2.2.2.2.2.2.2.2.2.1
theorem dL_law_361 : decode cL_law 361 = .ok (.iaload, 1) := DL_law_349.2.2.2.2.2.2.2.2.2.2.1
theorem dL_law_362 : decode cL_law 362 = .ok (.aload_n 3, 1) := DL_law_349.2.2.2.2.2.2.2.2.2.2.2.1
theorem dL_law_363 : decode cL_law 363 = .ok (.invokestatic 42, 3) := DL_law_349.2.2.2.2.2.2.2.2.2.2.2.2.1
theorem dL_law_366 : decode cL_law 366 = .ok (.istore 5, 2) := DL_law_349.2.2.2.2.2.2.2.2.2.2.2.2.2.1
theorem dL_law_368 : decode cL_law 368 = .ok (.aload_n 2, 1) := DL_law_349.2.2.2.2.2.2.2.2.2.2.2.2.2.2.1
theorem dL_law_369 : decode cL_law 369 = .ok (.aload_n 0, 1) := DL_law_349.2.2.2.2.2.2.2.2.2.2.2.2.2.2.2.1
theorem dL_law_370 : decode cL_law 370 = .ok (.iload 4, 2) := DL_law_349.2.2.2.2.2.2.2.2.2.2.2.2.2.2.2.2.1
theorem dL_law_372 : decode cL_law 372 = .ok (.iconst 1, 1) := DL_law_349.2.2.2.2.2.2.2.2.2.2.2.2.2.2.2.2.2.1
theorem dL_law_373 : decode cL_law 373 = .ok (.iadd, 1) := DL_law_349.2.2.2.2.2.2.2.2.2.2.2.2.2.2.2.2.2.2.1
theorem dL_law_374 : decode cL_law 374 = .ok (.iaload, 1) := DL_law_349.2.2.2.2.2.2.2.2.2.2.2.2.2.2.2.2.2.2.2.1
theorem dL_law_375 : decode cL_law 375 = .ok (.aload_n 0, 1) := DL_law_349.2.2.2.2.2.2.2.2.2.2.2.2.2.2.2.2.2.2.2.2.1
theorem dL_law_376 : decode cL_law 376 = .ok (.iload 4, 2) := DL_law_349.2.2.2.2.2.2.2.2.2.2.2.2.2.2.2.2.2.2.2.2.2.1
theorem dL_law_378 : decode cL_law 378 = .ok (.iconst 2, 1) := DL_law_349.2.2.2.2.2.2.2.2.2.2.2.2.2.2.2.2.2.2.2.2.2.2.1
theorem dL_law_379 : decode cL_law 379 = .ok (.iadd, 1) := DL_law_349.2.2.2.2.2.2.2.2.2.2.2.2.2.2.2.2.2.2.2.2.2.2.2
theorem DL_law_380 : (decode cL_law 380 = .ok (.iaload, 1)) ∧ (decode cL_law 381 = .ok (.invokevirtual 47, 3)) ∧ (decode cL_law 384 = .ok (.istore 6, 2)) ∧ (decode cL_law 386 = .ok (.goto 840, 3)) ∧ (decode cL_law 389 = .ok (.aload_n 1, 1)) ∧ (decode cL_law 390 = .ok (.aload_n 0, 1)) ∧ (decode cL_law 391 = .ok (.iload 4, 2)) ∧ (decode cL_law 393 = .ok (.iconst 1, 1)) ∧ (decode cL_law 394 = .ok (.iadd, 1)) ∧ (decode cL_law 395 = .ok (.iaload, 1)) ∧ (decode cL_law 396 = .ok (.aload_n 0, 1)) ∧ (decode cL_law 397 = .ok (.iload 4, 2)) ∧ (decode cL_law 399 = .ok (.iconst 2, 1)) ∧ (decode cL_law 400 = .ok (.iadd, 1)) ∧ (decode cL_law 401 = .ok (.iaload, 1)) ∧ (decode cL_law 402 = .ok (.invokevirtual 48, 3)) ∧ (decode cL_law 405 = .ok (.pop, 1)) ∧ (decode cL_law 406 = .ok (.aload_n 2, 1)) ∧ (decode cL_law 407 = .ok (.aload_n 0, 1)) ∧ (decode cL_law 408 = .ok (.iload 4, 2)) ∧ (decode cL_law 410 = .ok (.iconst 1, 1)) ∧ (decode cL_law 411 = .ok (.iadd, 1)) ∧ (decode cL_law 412 = .ok (.iaload, 1)) ∧ (decode cL_law 413 = .ok (.aload_n 0, 1)) := by decide +kernel
theorem dL_law_380 : decode cL_law 380 = .ok (.iaload, 1) := DL_law_380.1
theorem dL_law_381 : decode cL_law 381 = .ok (.invokevirtual 47, 3) := DL_law_380.2.1
theorem dL_law_384 : decode cL_law 384 = .ok (.istore 6, 2) := DL_law_380.2.2.1
theorem dL_law_386 : decode cL_law 386 = .ok (.goto 840, 3) := DL_law_380.2.2.2.1
theorem dL_law_389 : decode cL_law 389 = .ok (.aload_n 1, 1) := DL_law_380.2.2.2.2.1
theorem dL_law_390 : decode cL_law 390 = .ok (.aload_n 0, 1) := DL_law_380.2.2.2.2.2.1
theorem dL_law_391 : decode cL_law 391 = .ok (.iload 4, 2) := DL_law_380.2.2.2.2.2.2.1
theorem dL_law_393 : decode cL_law 393 = .ok (.iconst 1, 1) := DL_law_380.2.2.2.2.2.2.2.1
theorem dL_law_394 : decode cL_law 394 = .ok (.iadd, 1) := DL_law_380.2.2.2.2.2.2.2.2.1
theorem dL_law_395 : decode cL_law 395 = .ok (.iaload, 1) := DL_law_380.2.2.2.2.2.2.2.2.2.1
theorem dL_law_396 : decode cL_law 396 = .ok (.aload_n 0, 1) := DL_law_380.2.2.2.2.2.2.2.2.2.2.1
theorem dL_law_397 : decode cL_law 397 = .ok (.iload 4, 2) := DL_law_380.2.2.2.2.2.2.2.2.2.2.2.1
theorem dL_law_399 : decode cL_law 399 = .ok (.iconst 2, 1) := DL_law_380.2.2.2.2.2.2.2.2.2.2.2.2.1
theorem dL_law_400 : decode cL_law 400 = .ok (.iadd, 1) := DL_law_380.2.2.2.2.2.2.2.2.2.2.2.2.2.1
theorem dL_law_401 : decode cL_law 401 = .ok (.iaload, 1) := DL_law_380.2.2.2.2.2.2.2.2.2.2.2.2.2.2.1
theorem dL_law_402 : decode cL_law 402 = .ok (.invokevirtual 48, 3) := DL_law_380.2.2.2.2.2.2.2.2.2.2.2.2.2.2.2.1
theorem dL_law_405 : decode cL_law 405 = .ok (.pop, 1) := DL_law_380.2.2.2.2.2.2.2.2.2.2.2.2.2.2.2.2.1
theorem dL_law_406 : decode cL_law 406 = .ok (.aload_n 2, 1) := DL_law_380.2.2.2.2.2.2.2.2.2.2.2.2.2.2.2.2.2.1
theorem dL_law_407 : decode cL_law 407 = .ok (.aload_n 0, 1) := DL_law_380.2.2.2.2.2.2.2.2.2.2.2.2.2.2.2.2.2.2.1
theorem dL_law_408 : decode cL_law 408 = .ok (.iload 4, 2) := DL_law_380.2.2.2.2.2.2.2.2.2.2.2.2.2.2.2.2.2.2.2.1
theorem dL_law_410 : decode cL_law 410 = .ok (.iconst 1, 1) := DL_law_380.2.2.2.2.2.2.2.2.2.2.2.2.2.2.2.2.2.2.2.2.1
theorem dL_law_411 : decode cL_law 411 = .ok (.iadd, 1) := DL_law_380.2.2.2.2.2.2.2.2.2.2.2.2.2.2.2.2.2.2.2.2.2.1
theorem dL_law_412 : decode cL_law 412 = .ok (.iaload, 1) := DL_law_380.2.2.2.2.2.2.2.2.2.2.2.2.2.2.2.2.2.2.2.2.2.2.1
theorem dL_law_413 : decode cL_law 413 = .ok (.aload_n 0, 1) := DL_law_380.2.2.2.2.2.2.2.2.2.2.2.2.2.2.2.2.2.2.2.2.2.2.2
theorem DL_law_414 : (decode cL_law 414 = .ok (.iload 4, 2)) ∧ (decode cL_law 416 = .ok (.iconst 2, 1)) ∧ (decode cL_law 417 = .ok (.iadd, 1)) ∧ (decode cL_law 418 = .ok (.iaload, 1)) ∧ (decode cL_law 419 = .ok (.invokevirtual 51, 3)) ∧ (decode cL_law 422 = .ok (.pop, 1)) ∧ (decode cL_law 423 = .ok (.goto 803, 3)) ∧ (decode cL_law 426 = .ok (.aload_n 1, 1)) ∧ (decode cL_law 427 = .ok (.aload_n 0, 1)) ∧ (decode cL_law 428 = .ok (.iload 4, 2)) ∧ (decode cL_law 430 = .ok (.iconst 1, 1)) ∧ (decode cL_law 431 = .ok (.iadd, 1)) ∧ (decode cL_law 432 = .ok (.iaload, 1)) ∧ (decode cL_law 433 = .ok (.aload_n 0, 1)) ∧ (decode cL_law 434 = .ok (.iload 4, 2)) ∧ (decode cL_law 436 = .ok (.iconst 2, 1)) ∧ (decode cL_law 437 = .ok (.iadd, 1)) ∧ (decode cL_law 438 = .ok (.iaload, 1)) ∧ (decode cL_law 439 = .ok (.invokevirtual 52, 3)) ∧ (decode cL_law 442 = .ok (.pop, 1)) ∧ (decode cL_law 443 = .ok (.aload_n 2, 1)) ∧ (decode cL_law 444 = .ok (.aload_n 0, 1)) ∧ (decode cL_law 445 = .ok (.iload 4, 2)) ∧ (decode cL_law 447 = .ok (.iconst 1, 1)) := by decide +kernel
theorem dL_law_414 : decode cL_law 414 = .ok (.iload 4, 2) := DL_law_414.1
theorem dL_law_416 : decode cL_law 416 = .ok (.iconst 2, 1) := DL_law_414.2.1
theorem dL_law_417 : decode cL_law 417 = .ok (.iadd, 1) := DL_law_414.2.2.1
theorem dL_law_418 : decode cL_law 418 = .ok (.iaload, 1) := DL_law_414.2.2.2.1
theorem dL_law_419 : decode cL_law 419 = .ok (.invokevirtual 51, 3) := DL_law_414.2.2.2.2.1
theorem dL_law_422 : decode cL_law 422 = .ok (.pop, 1) := DL_law_414.2.2.2.2.2.1
theorem dL_law_423 : decode cL_law 423 = .ok (.goto 803, 3) := DL_law_414.2.2.2.2.2.2.1
theorem dL_law_426 : decode cL_law 426 = .ok (.aload_n 1, 1) := DL_law_414.2.2.2.2.2.2.2.1
theorem dL_law_427 : decode cL_law 427 = .ok (.aload_n 0, 1) := DL_law_414.2.2.2.2.2.2.2.2.1
theorem dL_law_428 : decode cL_law 428 = .ok (.iload 4, 2) := DL_law_414.2.2.2.2.2.2.2.2.2.1
theorem dL_law_430 : decode cL_law 430 = .ok (.iconst 1, 1) := DL_law_414.2.2.2.2.2.2.2.2.2.2.1
theorem dL_law_431 : decode cL_law 431 = .ok (.iadd, 1) := DL_law_414.2.2.2.2.2.2.2.2.2.2.2.1
theorem dL_law_432 : decode cL_law 432 = .ok (.iaload, 1) := DL_law_414.2.2.2.2.2.2.2.2.2.2.2.2.1
theorem dL_law_433 : decode cL_law 433 = .ok (.aload_n 0, 1) := DL_law_414.2.2.2.2.2.2.2.2.2.2.2.2.2.1
theorem dL_law_434 : decode cL_law 434 = .ok (.iload 4, 2) := DL_law_414.2.2.2.2.2.2.2.2.2.2.2.2.2.2.1
theorem dL_law_436 : decode cL_law 436 = .ok (.iconst 2, 1) := DL_law_414.2.2.2.2.2.2.2.2.2.2.2.2.2.2.2.1
theorem dL_law_437 : decode cL_law 437 = .ok (.iadd, 1) := DL_law_414.2.2.2.2.2.2.2.2.2.2.2.2.2.2.2.2.1
theorem dL_law_438 : decode cL_law 438 = .ok (.iaload, 1) := DL_law_414.2.2.2.2.2.2.2.2.2.2.2.2.2.2.2.2.2.1
theorem dL_law_439 : decode cL_law 439 = .ok (.invokevirtual 52, 3) := DL_law_414.2.2.2.2.2.2.2.2.2.2.2.2.2.2.2.2.2.2.1
theorem dL_law_442 : decode cL_law 442 = .ok (.pop, 1) := DL_law_414.2.2.2.2.2.2.2.2.2.2.2.2.2.2.2.2.2.2.2.1
theorem dL_law_443 : decode cL_law 443 = .ok (.aload_n 2, 1) := DL_law_414.2.2.2.2.2.2.2.2.2.2.2.2.2.2.2.2.2.2.2.2.1
theorem dL_law_444 : decode cL_law 444 = .ok (.aload_n 0, 1) := DL_law_414.2.2.2.2.2.2.2.2.2.2.2.2.2.2.2.2.2.2.2.2.2.1
theorem dL_law_445 : decode cL_law 445 = .ok (.iload 4, 2) := DL_law_414.2.2.2.2.2.2.2.2.2.2.2.2.2.2.2.2.2.2.2.2.2.2.1
theorem dL_law_447 : decode cL_law 447 = .ok (.iconst 1, 1) := DL_law_414.2.2.2.2.2.2.2.2.2.2.2.2.2.2.2.2.2.2.2.2.2.2.2
theorem DL_law_448 : (decode cL_law 448 = .ok (.iadd, 1)) ∧ (decode cL_law 449 = .ok (.iaload, 1)) ∧ (decode cL_law 450 = .ok (.aload_n 0, 1)) ∧ (decode cL_law 451 = .ok (.iload 4, 2)) ∧ (decode cL_law 453 = .ok (.iconst 2, 1)) ∧ (decode cL_law 454 = .ok (.iadd, 1)) ∧ (decode cL_law 455 = .ok (.iaload, 1)) ∧ (decode cL_law 456 = .ok (.invokevirtual 55, 3)) ∧ (decode cL_law 459 = .ok (.pop, 1)) ∧ (decode cL_law 460 = .ok (.goto 766, 3)) ∧ (decode cL_law 463 = .ok (.aload_n 1, 1)) ∧ (decode cL_law 464 = .ok (.aload_n 0, 1)) ∧ (decode cL_law 465 = .ok (.iload 4, 2)) ∧ (decode cL_law 467 = .ok (.iconst 1, 1)) ∧ (decode cL_law 468 = .ok (.iadd, 1)) ∧ (decode cL_law 469 = .ok (.iaload, 1)) ∧ (decode cL_law 470 = .ok (.invokevirtual 56, 3)) ∧ (decode cL_law 473 = .ok (.pop, 1)) ∧ (decode cL_law 474 = .ok (.aload_n 2, 1)) ∧ (decode cL_law 475 = .ok (.aload_n 0, 1)) ∧ (decode cL_law 476 = .ok (.iload 4, 2)) ∧ (decode cL_law 478 = .ok (.iconst 1, 1)) ∧ (decode cL_law 479 = .ok (.iadd, 1)) ∧ (decode cL_law 480 = .ok (.iaload, 1)) := by decide +kernel
theorem dL_law_448 : decode cL_law 448 = .ok (.iadd, 1) := DL_law_448.1
theorem dL_law_449 : decode cL_law 449 = .ok (.iaload, 1) := DL_law_448.2.1
theorem dL_law_450 : decode cL_law 450 = .ok (.aload_n 0, 1) := DL_law_448.2.2.1
theorem dL_law_451 : decode cL_law 451 = .ok (.iload 4, 2) := DL_law_448.2.2.2.1
theorem dL_law_453 : decode cL_law 453 = .ok (.iconst 2, 1) := DL_law_448.2.2.2.2.1
theorem dL_law_454 : decode cL_law 454 = .ok (.iadd, 1) := DL_law_448.2.2.2.2.2.1
theorem dL_law_455 : decode cL_law 455 = .ok (.iaload, 1) := DL_law_448.2.2.2.2.2.2.1
theorem dL_law_456 : decode cL_law 456 = .ok (.invokevirtual 55, 3) := DL_law_448.2.2.2.2.2.2.2.1
theorem dL_law_459 : decode cL_law 459 = .ok (.pop, 1) := DL_law_448.2.2.2.2.2.2.2.2.1
theorem dL_law_460 : decode cL_law 460 = .ok (.goto 766, 3) := DL_law_448.2.2.2.2.2.2.2.2.2.1
theorem dL_law_463 : decode cL_law 463 = .ok (.aload_n 1, 1) := DL_law_448.2.2.2.2.2.2.2.2.2.2.1
theorem dL_law_464 : decode cL_law 464 = .ok (.aload_n 0, 1) := DL_law_448.2.2.2.2.2.2.2.2.2.2.2.1
theorem dL_law_465 : decode cL_law 465 = .ok (.iload 4, 2) := DL_law_448.2.2.2.2.2.2.2.2.2.2.2.2.1
theorem dL_law_467 : decode cL_law 467 = .ok (.iconst 1, 1) := DL_law_448.2.2.2.2.2.2.2.2.2.2.2.2.2.1
theorem dL_law_468 : decode cL_law 468 = .ok (.iadd, 1) := DL_law_448.2.2.2.2.2.2.2.2.2.2.2.2.2.2.1
theorem dL_law_469 : decode cL_law 469 = .ok (.iaload, 1) := DL_law_448.2.2.2.2.2.2.2.2.2.2.2.2.2.2.2.1
theorem dL_law_470 : decode cL_law 470 = .ok (.invokevirtual 56, 3) := DL_law_448.2.2.2.2.2.2.2.2.2.2.2.2.2.2.2.2.1
theorem dL_law_473 : decode cL_law 473 = .ok (.pop, 1) := DL_law_448.2.2.2.2.2.2.2.2.2.2.2.2.2.2.2.2.2.1
theorem dL_law_474 : decode cL_law 474 = .ok (.aload_n 2, 1) := DL_law_448.2.2.2.2.2.2.2.2.2.2.2.2.2.2.2.2.2.2.1
theorem dL_law_475 : decode cL_law 475 = .ok (.aload_n 0, 1) := DL_law_448.2.2.2.2.2.2.2.2.2.2.2.2.2.2.2.2.2.2.2.1
theorem dL_law_476 : decode cL_law 476 = .ok (.iload 4, 2) := DL_law_448.2.2.2.2.2.2.2.2.2.2.2.2.2.2.2.2.2.2.2.2.1
theorem dL_law_478 : decode cL_law 478 = .ok (.iconst 1, 1) := DL_law_448.2.2.2.2.2.2.2.2.2.2.2.2.2.2.2.2.2.2.2.2.2.1
theorem dL_law_479 : decode cL_law 479 = .ok (.iadd, 1) := DL_law_448.2.2.2.2.2.2.2.2.2.2.2.2.2.2.2.2.2.2.2.2.2.2.1
theorem dL_law_480 : decode cL_law 480 = .ok (.iaload, 1) := DL_law_448.2.2.2.2.2.2.2.2.2.2.2.2.2.2.2.2.2.2.2.2.2.2.2
theorem DL_law_481 : (decode cL_law 481 = .ok (.invokevirtual 60, 3)) ∧ (decode cL_law 484 = .ok (.pop, 1)) ∧ (decode cL_law 485 = .ok (.goto 741, 3)) ∧ (decode cL_law 488 = .ok (.aload_n 1, 1)) ∧ (decode cL_law 489 = .ok (.aload_n 0, 1)) ∧ (decode cL_law 490 = .ok (.iload 4, 2)) ∧ (decode cL_law 492 = .ok (.iconst 1, 1)) ∧ (decode cL_law 493 = .ok (.iadd, 1)) ∧ (decode cL_law 494 = .ok (.iaload, 1)) ∧ (decode cL_law 495 = .ok (.invokevirtual 61, 3)) ∧ (decode cL_law 498 = .ok (.pop, 1)) ∧ (decode cL_law 499 = .ok (.aload_n 2, 1)) ∧ (decode cL_law 500 = .ok (.aload_n 0, 1)) ∧ (decode cL_law 501 = .ok (.iload 4, 2)) ∧ (decode cL_law 503 = .ok (.iconst 1, 1)) ∧ (decode cL_law 504 = .ok (.iadd, 1)) ∧ (decode cL_law 505 = .ok (.iaload, 1)) ∧ (decode cL_law 506 = .ok (.invokevirtual 64, 3)) ∧ (decode cL_law 509 = .ok (.pop, 1)) ∧ (decode cL_law 510 = .ok (.goto 716, 3)) ∧ (decode cL_law 513 = .ok (.aload_n 1, 1)) ∧ (decode cL_law 514 = .ok (.aload_n 0, 1)) ∧ (decode cL_law 515 = .ok (.iload 4, 2)) ∧ (decode cL_law 517 = .ok (.iconst 1, 1)) := by decide +kernel
theorem dL_law_481 : decode cL_law 481 = .ok (.invokevirtual 60, 3) := DL_law_481.1
theorem dL_law_484 : decode cL_law 484 = .ok (.pop, 1) := DL_law_481.2.1
theorem dL_law_485 : decode cL_law 485 = .ok (.goto 741, 3) := DL_law_481.2.2.1
theorem dL_law_488 : decode cL_law 488 = .ok (.aload_n 1, 1) := DL_law_481.2.2.2.1
theorem dL_law_489 : decode cL_law 489 = .ok (.aload_n 0, 1) := DL_law_481.2.2.2.2.1
theorem dL_law_490 : decode cL_law 490 = .ok (.iload 4, 2) := DL_law_481.2.2.2.2.2.1
theorem dL_law_492 : decode cL_law 492 = .ok (.iconst 1, 1) := DL_law_481.2.2.2.2.2.2.1
theorem dL_law_493 : decode cL_law 493 = .ok (.iadd, 1) := DL_law_481.2.2.2.2.2.2.2.1
theorem dL_law_494 : decode cL_law 494 = .ok (.iaload, 1) := DL_law_481.2.2.2.2.2.2.2.2.1
theorem dL_law_495 : decode cL_law 495 = .ok (.invokevirtual 61, 3) := DL_law_481.2.2.2.2.2.2.2.2.2.1
theorem dL_law_498 : decode cL_law 498 = .ok (.pop, 1) := DL_law_481.2.2.2.2.2.2.2.2.2.2.1
theorem dL_law_499 : decode cL_law 499 = .ok (.aload_n 2, 1) := DL_law_481.2.2.2.2.2.2.2.2.2.2.2.1
theorem dL_law_500 : decode cL_law 500 = .ok (.aload_n 0, 1) := DL_law_481.2.2.2.2.2.2.2.2.2.2.2.2.1
theorem dL_law_501 : decode cL_law 501 = .ok (.iload 4, 2) := DL_law_481.2.2.2.2.2.2.2.2.2.2.2.2.2.1
theorem dL_law_503 : decode cL_law 503 = .ok (.iconst 1, 1) := DL_law_481.2.2.2.2.2.2.2.2.2.2.2.2.2.2.1
theorem dL_law_504 : decode cL_law 504 = .ok (.iadd, 1) := DL_law_481.2.2.2.2.2.2.2.2.2.2.2.2.2.2.2.1
theorem dL_law_505 : decode cL_law 505 = .ok (.iaload, 1) := DL_law_481.2.2.2.2.2.2.2.2.2.2.2.2.2.2.2.2.1
theorem dL_law_506 : decode cL_law 506 = .ok (.invokevirtual 64, 3) := DL_law_481.2.2.2.2.2.2.2.2.2.2.2.2.2.2.2.2.2.1
theorem dL_law_509 : decode cL_law 509 = .ok (.pop, 1) := DL_law_481.2.2.2.2.2.2.2.2.2.2.2.2.2.2.2.2.2.2.1
theorem dL_law_510 : decode cL_law 510 = .ok (.goto 716, 3) := DL_law_481.2.2.2.2.2.2.2.2.2.2.2.2.2.2.2.2.2.2.2.1
theorem dL_law_513 : decode cL_law 513 = .ok (.aload_n 1, 1) := DL_law_481.2.2.2.2.2.2.2.2.2.2.2.2.2.2.2.2.2.2.2.2.1
theorem dL_law_514 : decode cL_law 514 = .ok (.aload_n 0, 1) := DL_law_481.2.2.2.2.2.2.2.2.2.2.2.2.2.2.2.2.2.2.2.2.2.1
theorem dL_law_515 : decode cL_law 515 = .ok (.iload 4, 2) := DL_law_481.2.2.2.2.2.2.2.2.2.2.2.2.2.2.2.2.2.2.2.2.2.2.1
theorem dL_law_517 : decode cL_law 517 = .ok (.iconst 1, 1) := DL_law_481.2.2.2.2.2.2.2.2.2.2.2.2.2.2.2.2.2.2.2.2.2.2.2
theorem DL_law_518 : (decode cL_law 518 = .ok (.iadd, 1)) ∧ (decode cL_law 519 = .ok (.iaload, 1)) ∧ (decode cL_law 520 = .ok (.invokevirtual 65, 3)) ∧ (decode cL_law 523 = .ok (.pop, 1)) ∧ (decode cL_law 524 = .ok (.aload_n 2, 1)) ∧ (decode cL_law 525 = .ok (.aload_n 0, 1)) ∧ (decode cL_law 526 = .ok (.iload 4, 2)) ∧ (decode cL_law 528 = .ok (.iconst 1, 1)) ∧ (decode cL_law 529 = .ok (.iadd, 1)) ∧ (decode cL_law 530 = .ok (.iaload, 1)) ∧ (decode cL_law 531 = .ok (.invokevirtual 68, 3)) ∧ (decode cL_law 534 = .ok (.pop, 1)) ∧ (decode cL_law 535 = .ok (.goto 691, 3)) ∧ (decode cL_law 538 = .ok (.aload_n 1, 1)) ∧ (decode cL_law 539 = .ok (.aload_n 0, 1)) ∧ (decode cL_law 540 = .ok (.iload 4, 2)) ∧ (decode cL_law 542 = .ok (.iconst 1, 1)) ∧ (decode cL_law 543 = .ok (.iadd, 1)) ∧ (decode cL_law 544 = .ok (.iaload, 1)) ∧ (decode cL_law 545 = .ok (.invokevirtual 69, 3)) ∧ (decode cL_law 548 = .ok (.pop, 1)) ∧ (decode cL_law 549 = .ok (.aload_n 2, 1)) ∧ (decode cL_law 550 = .ok (.aload_n 0, 1)) ∧ (decode cL_law 551 = .ok (.iload 4, 2)) := by decide +kernel
theorem dL_law_518 : decode cL_law 518 = .ok (.iadd, 1) := DL_law_518.1
theorem dL_law_519 : decode cL_law 519 = .ok (.iaload, 1) := DL_law_518.2.1
theorem dL_law_520 : decode cL_law 520 = .ok (.invokevirtual 65, 3) := DL_law_518.2.2.1
theorem dL_law_523 : decode cL_law 523 = .ok (.pop, 1) := DL_law_518.2.2.2.1
theorem dL_law_524 : decode cL_law 524 = .ok (.aload_n 2, 1) := DL_law_518.2.2.2.2.1
theorem dL_law_525 : decode cL_law 525 = .ok (.aload_n 0, 1) := DL_law_518.2.2.2.2.2.1
theorem dL_law_526 : decode cL_law 526 = .ok (.iload 4, 2) := DL_law_518.2.2.2.2.2.2.1
theorem dL_law_528 : decode cL_law 528 = .ok (.iconst 1, 1) := DL_law_518.2.2.2.2.2.2.2.1
theorem dL_law_529 : decode cL_law 529 = .ok (.iadd, 1) := DL_law_518.2.2.2.2.2.2.2.2.1
theorem dL_law_530 : decode cL_law 530 = .ok (.iaload, 1) := DL_law_518.2.2.2.2.2.2.2.2.2.1
theorem dL_law_531 : decode cL_law 531 = .ok (.invokevirtual 68, 3) := DL_law_518.2.2.2.2.2.2.2.2.2.2.1
theorem dL_law_534 : decode cL_law 534 = .ok (.pop, 1) := DL_law_518.2.2.2.2.2.2.2.2.2.2.2.1
theorem dL_law_535 : decode cL_law 535 = .ok (.goto 691, 3) := DL_law_518.2.2.2.2.2.2.2.2.2.2.2.2.1
theorem dL_law_538 : decode cL_law 538 = .ok (.aload_n 1, 1) := DL_law_518.2.2.2.2.2.2.2.2.2.2.2.2.2.1
theorem dL_law_539 : decode cL_law 539 = .ok (.aload_n 0, 1) := DL_law_518.2.2.2.2.2.2.2.2.2.2.2.2.2.2.1
theorem dL_law_540 : decode cL_law 540 = .ok (.iload 4, 2) := DL_law_518.2.2.2.2.2.2.2.2.2.2.2.2.2.2.2.1
theorem dL_law_542 : decode cL_law 542 = .ok (.iconst 1, 1) := DL_law_518.2.2.2.2.2.2.2.2.2.2.2.2.2.2.2.2.1
theorem dL_law_543 : decode cL_law 543 = .ok (.iadd, 1) := DL_law_518.2.2.2.2.2.2.2.2.2.2.2.2.2.2.2.2.2.1
theorem dL_law_544 : decode cL_law 544 = .ok (.iaload, 1) := DL_law_518.2.2.2.2.2.2.2.2.2.2.2.2.2.2.2.2.2.2.1
theorem dL_law_545 : decode cL_law 545 = .ok (.invokevirtual 69, 3) := DL_law_518.2.2.2.2.2.2.2.2.2.2.2.2.2.2.2.2.2.2.2.1
theorem dL_law_548 : decode cL_law 548 = .ok (.pop, 1) := DL_law_518.2.2.2.2.2.2.2.2.2.2.2.2.2.2.2.2.2.2.2.2.1
theorem dL_law_549 : decode cL_law 549 = .ok (.aload_n 2, 1) := DL_law_518.2.2.2.2.2.2.2.2.2.2.2.2.2.2.2.2.2.2.2.2.2.1
theorem dL_law_550 : decode cL_law 550 = .ok (.aload_n 0, 1) := DL_law_518.2.2.2.2.2.2.2.2.2.2.2.2.2.2.2.2.2.2.2.2.2.2.1
theorem dL_law_551 : decode cL_law 551 = .ok (.iload 4, 2) := DL_law_518.2.2.2.2.2.2.2.2.2.2.2.2.2.2.2.2.2.2.2.2.2.2.2
theorem DL_law_553 : (decode cL_law 553 = .ok (.iconst 1, 1)) ∧ (decode cL_law 554 = .ok (.iadd, 1)) ∧ (decode cL_law 555 = .ok (.iaload, 1)) ∧ (decode cL_law 556 = .ok (.invokevirtual 72, 3)) ∧ (decode cL_law 559 = .ok (.pop, 1)) ∧ (decode cL_law 560 = .ok (.goto 666, 3)) ∧ (decode cL_law 563 = .ok (.aload_n 1, 1)) ∧ (decode cL_law 564 = .ok (.aload_n 0, 1)) ∧ (decode cL_law 565 = .ok (.iload 4, 2)) ∧ (decode cL_law 567 = .ok (.iconst 1, 1)) ∧ (decode cL_law 568 = .ok (.iadd, 1)) ∧ (decode cL_law 569 = .ok (.iaload, 1)) ∧ (decode cL_law 570 = .ok (.invokevirtual 73, 3)) ∧ (decode cL_law 573 = .ok (.pop, 1)) ∧ (decode cL_law 574 = .ok (.aload_n 2, 1)) ∧ (decode cL_law 575 = .ok (.aload_n 0, 1)) ∧ (decode cL_law 576 = .ok (.iload 4, 2)) ∧ (decode cL_law 578 = .ok (.iconst 1, 1)) ∧ (decode cL_law 579 = .ok (.iadd, 1)) ∧ (decode cL_law 580 = .ok (.iaload, 1)) ∧ (decode cL_law 581 = .ok (.invokevirtual 76, 3)) ∧ (decode cL_law 584 = .ok (.pop, 1)) ∧ (decode cL_law 585 = .ok (.goto 641, 3)) ∧ (decode cL_law 588 = .ok (.aload_n 1, 1)) := by decide +kernel
theorem dL_law_553 : decode cL_law 553 = .ok (.iconst 1, 1) := DL_law_553.1
theorem dL_law_554 : decode cL_law 554 = .ok (.iadd, 1) := DL_law_553.2.1
theorem dL_law_555 : decode cL_law 555 = .ok (.iaload, 1) := DL_law_553.2.2.1
theorem dL_law_556 : decode cL_law 556 = .ok (.invokevirtual 72, 3) := DL_law_553.2.2.2.1
theorem dL_law_559 : decode cL_law 559 = .ok (.pop, 1) := DL_law_553.2.2.2.2.1
theorem dL_law_560 : decode cL_law 560 = .ok (.goto 666, 3) := DL_law_553.2.2.2.2.2.1
theorem dL_law_563 : decode cL_law 563 = .ok (.aload_n 1, 1) := DL_law_553.2.2.2.2.2.2.1
theorem dL_law_564 : decode cL_law 564 = .ok (.aload_n 0, 1) := DL_law_553.2.2.2.2.2.2.2.1
theorem dL_law_565 : decode cL_law 565 = .ok (.iload 4, 2) := DL_law_553.2.2.2.2.2.2.2.2.1
theorem dL_law_567 : decode cL_law 567 = .ok (.iconst 1, 1) := DL_law_553.2.2.2.2.2.2.2.2.2.1
theorem dL_law_568 : decode cL_law 568 = .ok (.iadd, 1) := DL_law_553.2.2.2.2.2.2.2.2.2.2.1
theorem dL_law_569 : decode cL_law 569 = .ok (.iaload, 1) := DL_law_553.2.2.2.2.2.2.2.2.2.2.2.1
theorem dL_law_570 : decode cL_law 570 = .ok (.invokevirtual 73, 3) := DL_law_553.2.2.2.2.2.2.2.2.2.2.2.2.1
theorem dL_law_573 : decode cL_law 573 = .ok (.pop, 1) := DL_law_553.2.2.2.2.2.2.2.2.2.2.2.2.2.1
theorem dL_law_574 : decode cL_law 574 = .ok (.aload_n 2, 1) := DL_law_553.2.2.2.2.2.2.2.2.2.2.2.2.2.2.1
theorem dL_law_575 : decode cL_law 575 = .ok (.aload_n 0, 1) := DL_law_553.2.2.2.2.2.2.2.2.2.2.2.2.2.2.2.1
theorem dL_law_576 : decode cL_law 576 = .ok (.iload 4, 2) := DL_law_553.2.2.2.2.2.2.2.2.2.2.2.2.2.2.2.2.1
theorem dL_law_578 : decode cL_law 578 = .ok (.iconst 1, 1) := DL_law_553.2.2.2.2.2.2.2.2.2.2.2.2.2.2.2.2.2.1
theorem dL_law_579 : decode cL_law 579 = .ok (.iadd, 1) := DL_law_553.2.2.2.2.2.2.2.2.2.2.2.2.2.2.2.2.2.2.1
theorem dL_law_580 : decode cL_law 580 = .ok (.iaload, 1) := DL_law_553.2.2.2.2.2.2.2.2.2.2.2.2.2.2.2.2.2.2.2.1
theorem dL_law_581 : decode cL_law 581 = .ok (.invokevirtual 76, 3) := DL_law_553.2.2.2.2.2.2.2.2.2.2.2.2.2.2.2.2.2.2.2.2.1
theorem dL_law_584 : decode cL_law 584 = .ok (.pop, 1) := DL_law_553.2.2.2.2.2.2.2.2.2.2.2.2.2.2.2.2.2.2.2.2.2.1
theorem dL_law_585 : decode cL_law 585 = .ok (.goto 641, 3) := DL_law_553.2.2.2.2.2.2.2.2.2.2.2.2.2.2.2.2.2.2.2.2.2.2.1
theorem dL_law_588 : decode cL_law 588 = .ok (.aload_n 1, 1) := DL_law_553.2.2.2.2.2.2.2.2.2.2.2.2.2.2.2.2.2.2.2.2.2.2.2
theorem DL_law_589 : (decode cL_law 589 = .ok (.aload_n 0, 1)) ∧ (decode cL_law 590 = .ok (.iload 4, 2)) ∧ (decode cL_law 592 = .ok (.iconst 1, 1)) ∧ (decode cL_law 593 = .ok (.iadd, 1)) ∧ (decode cL_law 594 = .ok (.iaload, 1)) ∧ (decode cL_law 595 = .ok (.aload_n 0, 1)) ∧ (decode cL_law 596 = .ok (.iload 4, 2)) ∧ (decode cL_law 598 = .ok (.iconst 2, 1)) ∧ (decode cL_law 599 = .ok (.iadd, 1)) ∧ (decode cL_law 600 = .ok (.iaload, 1)) ∧ (decode cL_law 601 = .ok (.invokevirtual 77, 3)) ∧ (decode cL_law 604 = .ok (.pop, 1)) ∧ (decode cL_law 605 = .ok (.aload_n 2, 1)) ∧ (decode cL_law 606 = .ok (.aload_n 0, 1)) ∧ (decode cL_law 607 = .ok (.iload 4, 2)) ∧ (decode cL_law 609 = .ok (.iconst 1, 1)) ∧ (decode cL_law 610 = .ok (.iadd, 1)) ∧ (decode cL_law 611 = .ok (.iaload, 1)) ∧ (decode cL_law 612 = .ok (.aload_n 0, 1)) ∧ (decode cL_law 613 = .ok (.iload 4, 2)) ∧ (decode cL_law 615 = .ok (.iconst 2, 1)) ∧ (decode cL_law 616 = .ok (.iadd, 1)) ∧ (decode cL_law 617 = .ok (.iaload, 1)) ∧ (decode cL_law 618 = .ok (.invokevirtual 81, 3)) := by decide +kernel
theorem dL_law_589 : decode cL_law 589 = .ok (.aload_n 0, 1) := DL_law_589.1
theorem dL_law_590 : decode cL_law 590 = .ok (.iload 4, 2) := DL_law_589.2.1
theorem dL_law_592 : decode cL_law 592 = .ok (.iconst 1, 1) := DL_law_589.2.2.1
theorem dL_law_593 : decode cL_law 593 = .ok (.iadd, 1) := DL_law_589.2.2.2.1
theorem dL_law_594 : decode cL_law 594 = .ok (.iaload, 1) := DL_law_589.2.2.2.2.1
theorem dL_law_595 : decode cL_law 595 = .ok (.aload_n 0, 1) := DL_law_589.2.2.2.2.2.1
theorem dL_law_596 : decode cL_law 596 = .ok (.iload 4, 2) := DL_law_589.2.2.2.2.2.2.1
theorem dL_law_598 : decode cL_law 598 = .ok (.iconst 2, 1) := DL_law_589.2.2.2.2.2.2.2.1
theorem dL_law_599 : decode cL_law 599 = .ok (.iadd, 1) := DL_law_589.2.2.2.2.2.2.2.2.1
theorem dL_law_600 : decode cL_law 600 = .ok (.iaload, 1) := DL_law_589.2.2.2.2.2.2.2.2.2.1
theorem dL_law_601 : decode cL_law 601 = .ok (.invokevirtual 77, 3) := DL_law_589.2.2.2.2.2.2.2.2.2.2.1
theorem dL_law_604 : decode cL_law 604 = .ok (.pop, 1) := DL_law_589.2.2.2.2.2.2.2.2.2.2.2.1
theorem dL_law_605 : decode cL_law 605 = .ok (.aload_n 2, 1) := DL_law_589.2.2.2.2.2.2.2.2.2.2.2.2.1
theorem dL_law_606 : decode cL_law 606 = .ok (.aload_n 0, 1) := DL_law_589.2.2.2.2.2.2.2.2.2.2.2.2.2.1
theorem dL_law_607 : decode cL_law 607 = .ok (.iload 4, 2) := DL_law_589.2.2.2.2.2.2.2.2.2.2.2.2.2.2.1
theorem dL_law_609 : decode cL_law 609 = .ok (.iconst 1, 1) := DL_law_589.2.2.2.2.2.2.2.2.2.2.2.2.2.2.2.1
theorem dL_law_610 : decode cL_law 610 = .ok (.iadd, 1) := DL_law_589.2.2.2.2.2.2.2.2.2.2.2.2.2.2.2.2.1
theorem dL_law_611 : decode cL_law 611 = .ok (.iaload, 1) := DL_law_589.2.2.2.2.2.2.2.2.2.2.2.2.2.2.2.2.2.1
theorem dL_law_612 : decode cL_law 612 = .ok (.aload_n 0, 1) := DL_law_589.2.2.2.2.2.2.2.2.2.2.2.2.2.2.2.2.2.2.1
theorem dL_law_613 : decode cL_law 613 = .ok (.iload 4, 2) := DL_law_589.2.2.2.2.2.2.2.2.2.2.2.2.2.2.2.2.2.2.2.1
theorem dL_law_615 : decode cL_law 615 = .ok (.iconst 2, 1) := DL_law_589.2.2.2.2.2.2.2.2.2.2.2.2.2.2.2.2.2.2.2.2.1
theorem dL_law_616 : decode cL_law 616 = .ok (.iadd, 1) := DL_law_589.2.2.2.2.2.2.2.2.2.2.2.2.2.2.2.2.2.2.2.2.2.1
theorem dL_law_617 : decode cL_law 617 = .ok (.iaload, 1) := DL_law_589.2.2.2.2.2.2.2.2.2.2.2.2.2.2.2.2.2.2.2.2.2.2.1
theorem dL_law_618 : decode cL_law 618 = .ok (.invokevirtual 81, 3) := DL_law_589.2.2.2.2.2.2.2.2.2.2.2.2.2.2.2.2.2.2.2.2.2.2.2
theorem DL_law_621 : (decode cL_law 621 = .ok (.pop, 1)) ∧ (decode cL_law 622 = .ok (.goto 604, 3)) ∧ (decode cL_law 625 = .ok (.aload_n 1, 1)) ∧ (decode cL_law 626 = .ok (.aload_n 0, 1)) ∧ (decode cL_law 627 = .ok (.iload 4, 2)) ∧ (decode cL_law 629 = .ok (.iconst 1, 1)) ∧ (decode cL_law 630 = .ok (.iadd, 1)) ∧ (decode cL_law 631 = .ok (.iaload, 1)) ∧ (decode cL_law 632 = .ok (.aload_n 0, 1)) ∧ (decode cL_law 633 = .ok (.iload 4, 2)) ∧ (decode cL_law 635 = .ok (.iconst 2, 1)) ∧ (decode cL_law 636 = .ok (.iadd, 1)) ∧ (decode cL_law 637 = .ok (.iaload, 1)) ∧ (decode cL_law 638 = .ok (.invokevirtual 82, 3)) ∧ (decode cL_law 641 = .ok (.pop, 1)) ∧ (decode cL_law 642 = .ok (.aload_n 2, 1)) ∧ (decode cL_law 643 = .ok (.aload_n 0, 1)) ∧ (decode cL_law 644 = .ok (.iload 4, 2)) ∧ (decode cL_law 646 = .ok (.iconst 1, 1)) ∧ (decode cL_law 647 = .ok (.iadd, 1)) ∧ (decode cL_law 648 = .ok (.iaload, 1)) ∧ (decode cL_law 649 = .ok (.aload_n 0, 1)) ∧ (decode cL_law 650 = .ok (.iload 4, 2)) ∧ (decode cL_law 652 = .ok (.iconst 2, 1)) := by decide +kernel
theorem dL_law_621 : decode cL_law 621 = .ok (.pop, 1) := DL_law_621.1
theorem dL_law_622 : decode cL_law 622 = .ok (.goto 604, 3) := DL_law_621.2.1
theorem dL_law_625 : decode cL_law 625 = .ok (.aload_n 1, 1) := DL_law_621.2.2.1
theorem dL_law_626 : decode cL_law 626 = .ok (.aload_n 0, 1) := DL_law_621.2.2.2.1
theorem dL_law_627 : decode cL_law 627 = .ok (.iload 4, 2) := DL_law_621.2.2.2.2.1
theorem dL_law_629 : decode cL_law 629 = .ok (.iconst 1, 1) := DL_law_621.2.2.2.2.2.1
theorem dL_law_630 : decode cL_law 630 = .ok (.iadd, 1) := DL_law_621.2.2.2.2.2.2.1
theorem dL_law_631 : decode cL_law 631 = .ok (.iaload, 1) := DL_law_621.2.2.2.2.2.2.2.1
theorem dL_law_632 : decode cL_law 632 = .ok (.aload_n 0, 1) := DL_law_621.2.2.2.2.2.2.2.2.1
theorem dL_law_633 : decode cL_law 633 = .ok (.iload 4, 2) := DL_law_621.2.2.2.2.2.2.2.2.2.1
theorem dL_law_635 : decode cL_law 635 = .ok (.iconst 2, 1) := DL_law_621.2.2.2.2.2.2.2.2.2.2.1
theorem dL_law_636 : decode cL_law 636 = .ok (.iadd, 1) := DL_law_621.2.2.2.2.2.2.2.2.2.2.2.1
theorem dL_law_637 : decode cL_law 637 = .ok (.iaload, 1) := DL_law_621.2.2.2.2.2.2.2.2.2.2.2.2.1
theorem dL_law_638 : decode cL_law 638 = .ok (.invokevirtual 82, 3) := DL_law_621.2.2.2.2.2.2.2.2.2.2.2.2.2.1
theorem dL_law_641 : decode cL_law 641 = .ok (.pop, 1) := DL_law_621.2.2.2.2.2.2.2.2.2.2.2.2.2.2.1
theorem dL_law_642 : decode cL_law 642 = .ok (.aload_n 2, 1) := DL_law_621.2.2.2.2.2.2.2.2.2.2.2.2.2.2.2.1
theorem dL_law_643 : decode cL_law 643 = .ok (.aload_n 0, 1) := DL_law_621.2.2.2.2.2.2.2.2.2.2.2.2.2.2.2.2.1
theorem dL_law_644 : decode cL_law 644 = .ok (.iload 4, 2) := DL_law_621.2.2.2.2.2.2.2.2.2.2.2.2.2.2.2.2.2.1
theorem dL_law_646 : decode cL_law 646 = .ok (.iconst 1, 1) := DL_law_621.2.2.2.2.2.2.2.2.2.2.2.2.2.2.2.2.2.2.1
theorem dL_law_647 : decode cL_law 647 = .ok (.iadd, 1) := DL_law_621.2.2.2.2.2.2.2.2.2.2.2.2.2.2.2.2.2.2.2.1
theorem dL_law_648 : decode cL_law 648 = .ok (.iaload, 1) := DL_law_621.2.2.2.2.2.2.2.2.2.2.2.2.2.2.2.2.2.2.2.2.1
theorem dL_law_649 : decode cL_law 649 = .ok (.aload_n 0, 1) := DL_law_621.2.2.2.2.2.2.2.2.2.2.2.2.2.2.2.2.2.2.2.2.2.1
theorem dL_law_650 : decode cL_law 650 = .ok (.iload 4, 2) := DL_law_621.2.2.2.2.2.2.2.2.2.2.2.2.2.2.2.2.2.2.2.2.2.2.1
theorem dL_law_652 : decode cL_law 652 = .ok (.iconst 2, 1) := DL_law_621.2.2.2.2.2.2.2.2.2.2.2.2.2.2.2.2.2.2.2.2.2.2.2
theorem DL_law_653 : (decode cL_law 653 = .ok (.iadd, 1)) ∧ (decode cL_law 654 = .ok (.iaload, 1)) ∧ (decode cL_law 655 = .ok (.invokevirtual 85, 3)) ∧ (decode cL_law 658 = .ok (.pop, 1)) ∧ (decode cL_law 659 = .ok (.goto 567, 3)) ∧ (decode cL_law 662 = .ok (.aload_n 1, 1)) ∧ (decode cL_law 663 = .ok (.aload_n 0, 1)) ∧ (decode cL_law 664 = .ok (.iload 4, 2)) ∧ (decode cL_law 666 = .ok (.iconst 1, 1)) ∧ (decode cL_law 667 = .ok (.iadd, 1)) ∧ (decode cL_law 668 = .ok (.iaload, 1)) ∧ (decode cL_law 669 = .ok (.aload_n 0, 1)) ∧ (decode cL_law 670 = .ok (.iload 4, 2)) ∧ (decode cL_law 672 = .ok (.iconst 2, 1)) ∧ (decode cL_law 673 = .ok (.iadd, 1)) ∧ (decode cL_law 674 = .ok (.iaload, 1)) ∧ (decode cL_law 675 = .ok (.invokevirtual 86, 3)) ∧ (decode cL_law 678 = .ok (.pop, 1)) ∧ (decode cL_law 679 = .ok (.aload_n 2, 1)) ∧ (decode cL_law 680 = .ok (.aload_n 0, 1)) ∧ (decode cL_law 681 = .ok (.iload 4, 2)) ∧ (decode cL_law 683 = .ok (.iconst 1, 1)) ∧ (decode cL_law 684 = .ok (.iadd, 1)) ∧ (decode cL_law 685 = .ok (.iaload, 1)) := by decide +kernel
theorem dL_law_653 : decode cL_law 653 = .ok (.iadd, 1) := DL_law_653.1
theorem dL_law_654 : decode cL_law 654 = .ok (.iaload, 1) := DL_law_653.2.1
theorem dL_law_655 : decode cL_law 655 = .ok (.invokevirtual 85, 3) := DL_law_653.2.2.1
theorem dL_law_658 : decode cL_law 658 = .ok (.pop, 1) := DL_law_653.2.2.2.1
theorem dL_law_659 : decode cL_law 659 = .ok (.goto 567, 3) := DL_law_653.2.2.2.2.1
theorem dL_law_662 : decode cL_law 662 = .ok (.aload_n 1, 1) := DL_law_653.2.2.2.2.2.1
theorem dL_law_663 : decode cL_law 663 = .ok (.aload_n 0, 1) := DL_law_653.2.2.2.2.2.2.1
theorem dL_law_664 : decode cL_law 664 = .ok (.iload 4, 2) := DL_law_653.2.2.2.2.2.2.2.1
theorem dL_law_666 : decode cL_law 666 = .ok (.iconst 1, 1) := DL_law_653.2.2.2.2.2.2.2.2.1
theorem dL_law_667 : decode cL_law 667 = .ok (.iadd, 1) := DL_law_653.2.2.2.2.2.2.2.2.2.1
theorem dL_law_668 : decode cL_law 668 = .ok (.iaload, 1) := DL_law_653.2.2.2.2.2.2.2.2.2.2.1
theorem dL_law_669 : decode cL_law 669 = .ok (.aload_n 0, 1) := DL_law_653.2.2.2.2.2.2.2.2.2.2.2.1
theorem dL_law_670 : decode cL_law 670 = .ok (.iload 4, 2) := DL_law_653.2.2.2.2.2.2.2.2.2.2.2.2.1
theorem dL_law_672 : decode cL_law 672 = .ok (.iconst 2, 1) := DL_law_653.2.2.2.2.2.2.2.2.2.2.2.2.2.1
theorem dL_law_673 : decode cL_law 673 = .ok (.iadd, 1) := DL_law_653.2.2.2.2.2.2.2.2.2.2.2.2.2.2.1
theorem dL_law_674 : decode cL_law 674 = .ok (.iaload, 1) := DL_law_653.2.2.2.2.2.2.2.2.2.2.2.2.2.2.2.1
theorem dL_law_675 : decode cL_law 675 = .ok (.invokevirtual 86, 3) := DL_law_653.2.2.2.2.2.2.2.2.2.2.2.2.2.2.2.2.1
theorem dL_law_678 : decode cL_law 678 = .ok (.pop, 1) := DL_law_653.2.2.2.2.2.2.2.2.2.2.2.2.2.2.2.2.2.1
theorem dL_law_679 : decode cL_law 679 = .ok (.aload_n 2, 1) := DL_law_653.2.2.2.2.2.2.2.2.2.2.2.2.2.2.2.2.2.2.1
theorem dL_law_680 : decode cL_law 680 = .ok (.aload_n 0, 1) := DL_law_653.2.2.2.2.2.2.2.2.2.2.2.2.2.2.2.2.2.2.2.1
theorem dL_law_681 : decode cL_law 681 = .ok (.iload 4, 2) := DL_law_653.2.2.2.2.2.2.2.2.2.2.2.2.2.2.2.2.2.2.2.2.1
theorem dL_law_683 : decode cL_law 683 = .ok (.iconst 1, 1) := DL_law_653.2.2.2.2.2.2.2.2.2.2.2.2.2.2.2.2.2.2.2.2.2.1
theorem dL_law_684 : decode cL_law 684 = .ok (.iadd, 1) := DL_law_653.2.2.2.2.2.2.2.2.2.2.2.2.2.2.2.2.2.2.2.2.2.2.1
theorem dL_law_685 : decode cL_law 685 = .ok (.iaload, 1) := DL_law_653.2.2.2.2.2.2.2.2.2.2.2.2.2.2.2.2.2.2.2.2.2.2.2
theorem DL_law_686 : (decode cL_law 686 = .ok (.aload_n 0, 1)) ∧ (decode cL_law 687 = .ok (.iload 4, 2)) ∧ (decode cL_law 689 = .ok (.iconst 2, 1)) ∧ (decode cL_law 690 = .ok (.iadd, 1)) ∧ (decode cL_law 691 = .ok (.iaload, 1)) ∧ (decode cL_law 692 = .ok (.invokevirtual 89, 3)) ∧ (decode cL_law 695 = .ok (.pop, 1)) ∧ (decode cL_law 696 = .ok (.goto 530, 3)) ∧ (decode cL_law 699 = .ok (.aload_n 1, 1)) ∧ (decode cL_law 700 = .ok (.aload_n 0, 1)) ∧ (decode cL_law 701 = .ok (.iload 4, 2)) ∧ (decode cL_law 703 = .ok (.iconst 1, 1)) ∧ (decode cL_law 704 = .ok (.iadd, 1)) ∧ (decode cL_law 705 = .ok (.iaload, 1)) ∧ (decode cL_law 706 = .ok (.aload_n 0, 1)) ∧ (decode cL_law 707 = .ok (.iload 4, 2)) ∧ (decode cL_law 709 = .ok (.iconst 2, 1)) ∧ (decode cL_law 710 = .ok (.iadd, 1)) ∧ (decode cL_law 711 = .ok (.iaload, 1)) ∧ (decode cL_law 712 = .ok (.invokevirtual 90, 3)) ∧ (decode cL_law 715 = .ok (.pop, 1)) ∧ (decode cL_law 716 = .ok (.aload_n 2, 1)) ∧ (decode cL_law 717 = .ok (.aload_n 0, 1)) ∧ (decode cL_law 718 = .ok (.iload 4, 2)) := by decide +kernel
theorem dL_law_686 : decode cL_law 686 = .ok (.aload_n 0, 1) := DL_law_686.1
theorem dL_law_687 : decode cL_law 687 = .ok (.iload 4, 2) := DL_law_686.2.1
theorem dL_law_689 : decode cL_law 689 = .ok (.iconst 2, 1) := DL_law_686.2.2.1
theorem dL_law_690 : decode cL_law 690 = .ok (.iadd, 1) := DL_law_686.2.2.2.1
theorem dL_law_691 : decode cL_law 691 = .ok (.iaload, 1) := DL_law_686.2.2.2.2.1
theorem dL_law_692 : decode cL_law 692 = .ok (.invokevirtual 89, 3) := DL_law_686.2.2.2.2.2.1
theorem dL_law_695 : decode cL_law 695 = .ok (.pop, 1) := DL_law_686.2.2.2.2.2.2.1
theorem dL_law_696 : decode cL_law 696 = .ok (.goto 530, 3) := DL_law_686.2.2.2.2.2.2.2.1
theorem dL_law_699 : decode cL_law 699 = .ok (.aload_n 1, 1) := DL_law_686.2.2.2.2.2.2.2.2.1
theorem dL_law_700 : decode cL_law 700 = .ok (.aload_n 0, 1) := DL_law_686.2.2.2.2.2.2.2.2.2.1
theorem dL_law_701 : decode cL_law 701 = .ok (.iload 4, 2) := DL_law_686.2.2.2.2.2.2.2.2.2.2.1
theorem dL_law_703 : decode cL_law 703 = .ok (.iconst 1, 1) := DL_law_686.2.2.2.2.2.2.2.2.2.2.2.1
theorem dL_law_704 : decode cL_law 704 = .ok (.iadd, 1) := DL_law_686.2.2.2.2.2.2.2.2.2.2.2.2.1
theorem dL_law_705 : decode cL_law 705 = .ok (.iaload, 1) := DL_law_686.2.2.2.2.2.2.2.2.2.2.2.2.2.1
theorem dL_law_706 : decode cL_law 706 = .ok (.aload_n 0, 1) := DL_law_686.2.2.2.2.2.2.2.2.2.2.2.2.2.2.1
theorem dL_law_707 : decode cL_law 707 = .ok (.iload 4, 2) := DL_law_686.2.2.2.2.2.2.2.2.2.2.2.2.2.2.2.1
theorem dL_law_709 : decode cL_law 709 = .ok (.iconst 2, 1) := DL_law_686.2.2.2.2.2.2.2.2.2.2.2.2.2.2.2.2.1
theorem dL_law_710 : decode cL_law 710 = .ok (.iadd, 1) := DL_law_686.2.2.2.2.2.2.2.2.2.2.2.2.2.2.2.2.2.1
theorem dL_law_711 : decode cL_law 711 = .ok (.iaload, 1) := DL_law_686.2.2.2.2.2.2.2.2.2.2.2.2.2.2.2.2.2.2.1
theorem dL_law_712 : decode cL_law 712 = .ok (.invokevirtual 90, 3) := DL_law_686.2.2.2.2.2.2.2.2.2.2.2.2.2.2.2.2.2.2.2.1
theorem dL_law_715 : decode cL_law 715 = .ok (.pop, 1) := DL_law_686.2.2.2.2.2.2.2.2.2.2.2.2.2.2.2.2.2.2.2.2.1
theorem dL_law_716 : decode cL_law 716 = .ok (.aload_n 2, 1) := DL_law_686.2.2.2.2.2.2.2.2.2.2.2.2.2.2.2.2.2.2.2.2.2.1
theorem dL_law_717 : decode cL_law 717 = .ok (.aload_n 0, 1) := DL_law_686.2.2.2.2.2.2.2.2.2.2.2.2.2.2.2.2.2.2.2.2.2.2.1
theorem dL_law_718 : decode cL_law 718 = .ok (.iload 4, 2) := DL_law_686.2.2.2.2.2.2.2.2.2.2.2.2.2.2.2.2.2.2.2.2.2.2.2
theorem DL_law_720 : (decode cL_law 720 = .ok (.iconst 1, 1)) ∧ (decode cL_law 721 = .ok (.iadd, 1)) ∧ (decode cL_law 722 = .ok (.iaload, 1)) ∧ (decode cL_law 723 = .ok (.aload_n 0, 1)) ∧ (decode cL_law 724 = .ok (.iload 4, 2)) ∧ (decode cL_law 726 = .ok (.iconst 2, 1)) ∧ (decode cL_law 727 = .ok (.iadd, 1)) ∧ (decode cL_law 728 = .ok (.iaload, 1)) ∧ (decode cL_law 729 = .ok (.invokevirtual 93, 3)) ∧ (decode cL_law 732 = .ok (.pop, 1)) ∧ (decode cL_law 733 = .ok (.goto 493, 3)) ∧ (decode cL_law 736 = .ok (.aload_n 1, 1)) ∧ (decode cL_law 737 = .ok (.invokevirtual 94, 3)) ∧ (decode cL_law 740 = .ok (.pop, 1)) ∧ (decode cL_law 741 = .ok (.aload_n 2, 1)) ∧ (decode cL_law 742 = .ok (.invokevirtual 97, 3)) ∧ (decode cL_law 745 = .ok (.pop, 1)) ∧ (decode cL_law 746 = .ok (.goto 480, 3)) ∧ (decode cL_law 749 = .ok (.aload_n 1, 1)) ∧ (decode cL_law 750 = .ok (.invokevirtual 98, 3)) ∧ (decode cL_law 753 = .ok (.pop, 1)) ∧ (decode cL_law 754 = .ok (.aload_n 2, 1)) ∧ (decode cL_law 755 = .ok (.invokevirtual 101, 3)) ∧ (decode cL_law 758 = .ok (.pop, 1)) := by decide +kernel
theorem dL_law_720 : decode cL_law 720 = .ok (.iconst 1, 1) := DL_law_720.1
theorem dL_law_721 : decode cL_law 721 = .ok (.iadd, 1) := DL_law_720.2.1
theorem dL_law_722 : decode cL_law 722 = .ok (.iaload, 1) := DL_law_720.2.2.1
theorem dL_law_723 : decode cL_law 723 = .ok (.aload_n 0, 1) := DL_law_720.2.2.2.1
theorem dL_law_724 : decode cL_law 724 = .ok (.iload 4, 2) := DL_law_720.2.2.2.2.1
theorem dL_law_726 : decode cL_law 726 = .ok (.iconst 2, 1) := DL_law_720.2.2.2.2.2.1
theorem dL_law_727 : decode cL_law 727 = .ok (.iadd, 1) := DL_law_720.2.2.2.2.2.2.1
theorem dL_law_728 : decode cL_law 728 = .ok (.iaload, 1) := DL_law_720.2.2.2.2.2.2.2.1
theorem dL_law_729 : decode cL_law 729 = .ok (.invokevirtual 93, 3) := DL_law_720.2.2.2.2.2.2.2.2.1
theorem dL_law_732 : decode cL_law 732 = .ok (.pop, 1) := DL_law_720.2.2.2.2.2.2.2.2.2.1
theorem dL_law_733 : decode cL_law 733 = .ok (.goto 493, 3) := DL_law_720.2.2.2.2.2.2.2.2.2.2.1
theorem dL_law_736 : decode cL_law 736 = .ok (.aload_n 1, 1) := DL_law_720.2.2.2.2.2.2.2.2.2.2.2.1
theorem dL_law_737 : decode cL_law 737 = .ok (.invokevirtual 94, 3) := DL_law_720.2.2.2.2.2.2.2.2.2.2.2.2.1
theorem dL_law_740 : decode cL_law 740 = .ok (.pop, 1) := DL_law_720.2.2.2.2.2.2.2.2.2.2.2.2.2.1
theorem dL_law_741 : decode cL_law 741 = .ok (.aload_n 2, 1) := DL_law_720.2.2.2.2.2.2.2.2.2.2.2.2.2.2.1
theorem dL_law_742 : decode cL_law 742 = .ok (.invokevirtual 97, 3) := DL_law_720.2.2.2.2.2.2.2.2.2.2.2.2.2.2.2.1
theorem dL_law_745 : decode cL_law 745 = .ok (.pop, 1) := DL_law_720.2.2.2.2.2.2.2.2.2.2.2.2.2.2.2.2.1
theorem dL_law_746 : decode cL_law 746 = .ok (.goto 480, 3) := DL_law_720.2.2.2.2.2.2.2.2.2.2.2.2.2.2.2.2.2.1
theorem dL_law_749 : decode cL_law 749 = .ok (.aload_n 1, 1) := DL_law_720.2.2.2.2.2.2.2.2.2.2.2.2.2.2.2.2.2.2.1
theorem dL_law_750 : decode cL_law 750 = .ok (.invokevirtual 98, 3) := DL_law_720.2.2.2.2.2.2.2.2.2.2.2.2.2.2.2.2.2.2.2.1
theorem dL_law_753 : decode cL_law 753 = .ok (.pop, 1) := DL_law_720.2.2.2.2.2.2.2.2.2.2.2.2.2.2.2.2.2.2.2.2.1
theorem dL_law_754 : decode cL_law 754 = .ok (.aload_n 2, 1) := DL_law_720.2.2.2.2.2.2.2.2.2.2.2.2.2.2.2.2.2.2.2.2.2.1
theorem dL_law_755 : decode cL_law 755 = .ok (.invokevirtual 101, 3) := DL_law_720.2.2.2.2.2.2.2.2.2.2.2.2.2.2.2.2.2.2.2.2.2.2.1
theorem dL_law_758 : decode cL_law 758 = .ok (.pop, 1) := DL_law_720.2.2.2.2.2.2.2.2.2.2.2.2.2.2.2.2.2.2.2.2.2.2.2
theorem DL_law_759 : (decode cL_law 759 = .ok (.goto 467, 3)) ∧ (decode cL_law 762 = .ok (.aload_n 1, 1)) ∧ (decode cL_law 763 = .ok (.aload_n 0, 1)) ∧ (decode cL_law 764 = .ok (.iload 4, 2)) ∧ (decode cL_law 766 = .ok (.iconst 1, 1)) ∧ (decode cL_law 767 = .ok (.iadd, 1)) ∧ (decode cL_law 768 = .ok (.iaload, 1)) ∧ (decode cL_law 769 = .ok (.invokevirtual 102, 3)) ∧ (decode cL_law 772 = .ok (.pop, 1)) ∧ (decode cL_law 773 = .ok (.aload_n 2, 1)) ∧ (decode cL_law 774 = .ok (.aload_n 0, 1)) ∧ (decode cL_law 775 = .ok (.iload 4, 2)) ∧ (decode cL_law 777 = .ok (.iconst 1, 1)) ∧ (decode cL_law 778 = .ok (.iadd, 1)) ∧ (decode cL_law 779 = .ok (.iaload, 1)) ∧ (decode cL_law 780 = .ok (.invokevirtual 105, 3)) ∧ (decode cL_law 783 = .ok (.pop, 1)) ∧ (decode cL_law 784 = .ok (.goto 442, 3)) ∧ (decode cL_law 787 = .ok (.aload_n 1, 1)) ∧ (decode cL_law 788 = .ok (.invokevirtual 106, 3)) ∧ (decode cL_law 791 = .ok (.pop, 1)) ∧ (decode cL_law 792 = .ok (.aload_n 2, 1)) ∧ (decode cL_law 793 = .ok (.invokevirtual 109, 3)) ∧ (decode cL_law 796 = .ok (.pop, 1)) := by decide +kernel
theorem dL_law_759 : decode cL_law 759 = .ok (.goto 467, 3) := DL_law_759.1
theorem dL_law_762 : decode cL_law 762 = .ok (.aload_n 1, 1) := DL_law_759.2.1
theorem dL_law_763 : decode cL_law 763 = .ok (.aload_n 0, 1) := DL_law_759.2.2.1
theorem dL_law_764 : decode cL_law 764 = .ok (.iload 4, 2) := DL_law_759.2.2.2.1
theorem dL_law_766 : decode cL_law 766 = .ok (.iconst 1, 1) := DL_law_759.2.2.2.2.1
theorem dL_law_767 : decode cL_law 767 = .ok (.iadd, 1) := DL_law_759.2.2.2.2.2.1
theorem dL_law_768 : decode cL_law 768 = .ok (.iaload, 1) := DL_law_759.2.2.2.2.2.2.1
theorem dL_law_769 : decode cL_law 769 = .ok (.invokevirtual 102, 3) := DL_law_759.2.2.2.2.2.2.2.1
theorem dL_law_772 : decode cL_law 772 = .ok (.pop, 1) := DL_law_759.2.2.2.2.2.2.2.2.1
theorem dL_law_773 : decode cL_law 773 = .ok (.aload_n 2, 1) := DL_law_759.2.2.2.2.2.2.2.2.2.1
theorem dL_law_774 : decode cL_law 774 = .ok (.aload_n 0, 1) := DL_law_759.2.2.2.2.2.2.2.2.2.2.1
theorem dL_law_775 : decode cL_law 775 = .ok (.iload 4, 2) := DL_law_759.2.2.2.2.2.2.2.2.2.2.2.1
theorem dL_law_777 : decode cL_law 777 = .ok (.iconst 1, 1) := DL_law_759.2.2.2.2.2.2.2.2.2.2.2.2.1
theorem dL_law_778 : decode cL_law 778 = .ok (.iadd, 1) := DL_law_759.2.2.2.2.2.2.2.2.2.2.2.2.2.1
theorem dL_law_779 : decode cL_law 779 = .ok (.iaload, 1) := DL_law_759.2.2.2.2.2.2.2.2.2.2.2.2.2.2.1
theorem dL_law_780 : decode cL_law 780 = .ok (.invokevirtual 105, 3) := DL_law_759.2.2.2.2.2.2.2.2.2.2.2.2.2.2.2.1
theorem dL_law_783 : decode cL_law 783 = .ok (.pop, 1) := DL_law_759.2.2.2.2.2.2.2.2.2.2.2.2.2.2.2.2.1
theorem dL_law_784 : decode cL_law 784 = .ok (.goto 442, 3) := DL_law_759.2.2.2.2.2.2.2.2.2.2.2.2.2.2.2.2.2.1
theorem dL_law_787 : decode cL_law 787 = .ok (.aload_n 1, 1) := DL_law_759.2.2.2.2.2.2.2.2.2.2.2.2.2.2.2.2.2.2.1
theorem dL_law_788 : decode cL_law 788 = .ok (.invokevirtual 106, 3) := DL_law_759.2.2.2.2.2.2.2.2.2.2.2.2.2.2.2.2.2.2.2.1
theorem dL_law_791 : decode cL_law 791 = .ok (.pop, 1) := DL_law_759.2.2.2.2.2.2.2.2.2.2.2.2.2.2.2.2.2.2.2.2.1
theorem dL_law_792 : decode cL_law 792 = .ok (.aload_n 2, 1) := DL_law_759.2.2.2.2.2.2.2.2.2.2.2.2.2.2.2.2.2.2.2.2.2.1
theorem dL_law_793 : decode cL_law 793 = .ok (.invokevirtual 109, 3) := DL_law_759.2.2.2.2.2.2.2.2.2.2.2.2.2.2.2.2.2.2.2.2.2.2.1
theorem dL_law_796 : decode cL_law 796 = .ok (.pop, 1) := DL_law_759.2.2.2.2.2.2.2.2.2.2.2.2.2.2.2.2.2.2.2.2.2.2.2
theorem DL_law_797 : (decode cL_law 797 = .ok (.goto 429, 3)) ∧ (decode cL_law 800 = .ok (.aload_n 1, 1)) ∧ (decode cL_law 801 = .ok (.aload_n 0, 1)) ∧ (decode cL_law 802 = .ok (.iload 4, 2)) ∧ (decode cL_law 804 = .ok (.iconst 1, 1)) ∧ (decode cL_law 805 = .ok (.iadd, 1)) ∧ (decode cL_law 806 = .ok (.iaload, 1)) ∧ (decode cL_law 807 = .ok (.invokevirtual 110, 3)) ∧ (decode cL_law 810 = .ok (.pop, 1)) ∧ (decode cL_law 811 = .ok (.aload_n 2, 1)) ∧ (decode cL_law 812 = .ok (.aload_n 0, 1)) ∧ (decode cL_law 813 = .ok (.iload 4, 2)) ∧ (decode cL_law 815 = .ok (.iconst 1, 1)) ∧ (decode cL_law 816 = .ok (.iadd, 1)) ∧ (decode cL_law 817 = .ok (.iaload, 1)) ∧ (decode cL_law 818 = .ok (.invokevirtual 113, 3)) ∧ (decode cL_law 821 = .ok (.pop, 1)) ∧ (decode cL_law 822 = .ok (.goto 404, 3)) ∧ (decode cL_law 825 = .ok (.aload_n 1, 1)) ∧ (decode cL_law 826 = .ok (.aload_n 0, 1)) ∧ (decode cL_law 827 = .ok (.iload 4, 2)) ∧ (decode cL_law 829 = .ok (.iconst 1, 1)) ∧ (decode cL_law 830 = .ok (.iadd, 1)) ∧ (decode cL_law 831 = .ok (.iaload, 1)) := by decide +kernel
theorem dL_law_797 : decode cL_law 797 = .ok (.goto 429, 3) := DL_law_797.1
theorem dL_law_800 : decode cL_law 800 = .ok (.aload_n 1, 1) := DL_law_797.2.1
theorem dL_law_801 : decode cL_law 801 = .ok (.aload_n 0, 1) := DL_law_797.2.2.1
theorem dL_law_802 : decode cL_law 802 = .ok (.iload 4, 2) := DL_law_797.2.2.2.1
theorem dL_law_804 : decode cL_law 804 = .ok (.iconst 1, 1) := DL_law_797.2.2.2.2.1
theorem dL_law_805 : decode cL_law 805 = .ok (.iadd, 1) := DL_law_797.2.2.2.2.2.1
theorem dL_law_806 : decode cL_law 806 = .ok (.iaload, 1) := DL_law_797.2.2.2.2.2.2.1
theorem dL_law_807 : decode cL_law 807 = .ok (.invokevirtual 110, 3) := DL_law_797.2.2.2.2.2.2.2.1
theorem dL_law_810 : decode cL_law 810 = .ok (.pop, 1) := DL_law_797.2.2.2.2.2.2.2.2.1
theorem dL_law_811 : decode cL_law 811 = .ok (.aload_n 2, 1) := DL_law_797.2.2.2.2.2.2.2.2.2.1
theorem dL_law_812 : decode cL_law 812 = .ok (.aload_n 0, 1) := DL_law_797.2.2.2.2.2.2.2.2.2.2.1
theorem dL_law_813 : decode cL_law 813 = .ok (.iload 4, 2) := DL_law_797.2.2.2.2.2.2.2.2.2.2.2.1
theorem dL_law_815 : decode cL_law 815 = .ok (.iconst 1, 1) := DL_law_797.2.2.2.2.2.2.2.2.2.2.2.2.1
theorem dL_law_816 : decode cL_law 816 = .ok (.iadd, 1) := DL_law_797.2.2.2.2.2.2.2.2.2.2.2.2.2.1
theorem dL_law_817 : decode cL_law 817 = .ok (.iaload, 1) := DL_law_797.2.2.2.2.2.2.2.2.2.2.2.2.2.2.1
theorem dL_law_818 : decode cL_law 818 = .ok (.invokevirtual 113, 3) := DL_law_797.2.2.2.2.2.2.2.2.2.2.2.2.2.2.2.1
theorem dL_law_821 : decode cL_law 821 = .ok (.pop, 1) := DL_law_797.2.2.2.2.2.2.2.2.2.2.2.2.2.2.2.2.1
theorem dL_law_822 : decode cL_law 822 = .ok (.goto 404, 3) := DL_law_797.2.2.2.2.2.2.2.2.2.2.2.2.2.2.2.2.2.1
theorem dL_law_825 : decode cL_law 825 = .ok (.aload_n 1, 1) := DL_law_797.2.2.2.2.2.2.2.2.2.2.2.2.2.2.2.2.2.2.1
theorem dL_law_826 : decode cL_law 826 = .ok (.aload_n 0, 1) := DL_law_797.2.2.2.2.2.2.2.2.2.2.2.2.2.2.2.2.2.2.2.1
theorem dL_law_827 : decode cL_law 827 = .ok (.iload 4, 2) := DL_law_797.2.2.2.2.2.2.2.2.2.2.2.2.2.2.2.2.2.2.2.2.1
theorem dL_law_829 : decode cL_law 829 = .ok (.iconst 1, 1) := DL_law_797.2.2.2.2.2.2.2.2.2.2.2.2.2.2.2.2.2.2.2.2.2.1
theorem dL_law_830 : decode cL_law 830 = .ok (.iadd, 1) := DL_law_797.2.2.2.2.2.2.2.2.2.2.2.2.2.2.2.2.2.2.2.2.2.2.1
theorem dL_law_831 : decode cL_law 831 = .ok (.iaload, 1) := DL_law_797.2.2.2.2.2.2.2.2.2.2.2.2.2.2.2.2.2.2.2.2.2.2.2
theorem DL_law_832 : (decode cL_law 832 = .ok (.invokevirtual 114, 3)) ∧ (decode cL_law 835 = .ok (.pop, 1)) ∧ (decode cL_law 836 = .ok (.aload_n 2, 1)) ∧ (decode cL_law 837 = .ok (.aload_n 0, 1)) ∧ (decode cL_law 838 = .ok (.iload 4, 2)) ∧ (decode cL_law 840 = .ok (.iconst 1, 1)) ∧ (decode cL_law 841 = .ok (.iadd, 1)) ∧ (decode cL_law 842 = .ok (.iaload, 1)) ∧ (decode cL_law 843 = .ok (.invokevirtual 117, 3)) ∧ (decode cL_law 846 = .ok (.pop, 1)) ∧ (decode cL_law 847 = .ok (.goto 379, 3)) ∧ (decode cL_law 850 = .ok (.aload_n 1, 1)) ∧ (decode cL_law 851 = .ok (.invokevirtual 118, 3)) ∧ (decode cL_law 854 = .ok (.pop, 1)) ∧ (decode cL_law 855 = .ok (.aload_n 2, 1)) ∧ (decode cL_law 856 = .ok (.invokevirtual 121, 3)) ∧ (decode cL_law 859 = .ok (.pop, 1)) ∧ (decode cL_law 860 = .ok (.goto 366, 3)) ∧ (decode cL_law 863 = .ok (.aload_n 1, 1)) ∧ (decode cL_law 864 = .ok (.aload_n 0, 1)) ∧ (decode cL_law 865 = .ok (.iload 4, 2)) ∧ (decode cL_law 867 = .ok (.iconst 1, 1)) ∧ (decode cL_law 868 = .ok (.iadd, 1)) ∧ (decode cL_law 869 = .ok (.iaload, 1)) := by decide +kernel
theorem dL_law_832 : decode cL_law 832 = .ok (.invokevirtual 114, 3) := DL_law_832.1
theorem dL_law_835 : decode cL_law 835 = .ok (.pop, 1) := DL_law_832.2.1
theorem dL_law_836 : decode cL_law 836 = .ok (.aload_n 2, 1) := DL_law_832.2.2.1
theorem dL_law_837 : decode cL_law 837 = .ok (.aload_n 0, 1) := DL_law_832.2.2.2.1
theorem dL_law_838 : decode cL_law 838 = .ok (.iload 4, 2) := DL_law_832.2.2.2.2.1
theorem dL_law_840 : decode cL_law 840 = .ok (.iconst 1, 1) := DL_law_832.2.2.2.2.2.1
theorem dL_law_841 : decode cL_law 841 = .ok (.iadd, 1) := DL_law_832.2.2.2.2.2.2.1
theorem dL_law_842 : decode cL_law 842 = .ok (.iaload, 1) := DL_law_832.2.2.2.2.2.2.2.1
theorem dL_law_843 : decode cL_law 843 = .ok (.invokevirtual 117, 3) := DL_law_832.2.2.2.2.2.2.2.2.1
theorem dL_law_846 : decode cL_law 846 = .ok (.pop, 1) := DL_law_832.2.2.2.2.2.2.2.2.2.1
theorem dL_law_847 : decode cL_law 847 = .ok (.goto 379, 3) := DL_law_832.2.2.2.2.2.2.2.2.2.2.1
theorem dL_law_850 : decode cL_law 850 = .ok (.aload_n 1, 1) := DL_law_832.2.2.2.2.2.2.2.2.2.2.2.1
theorem dL_law_851 : decode cL_law 851 = .ok (.invokevirtual 118, 3) := DL_law_832.2.2.2.2.2.2.2.2.2.2.2.2.1
theorem dL_law_854 : decode cL_law 854 = .ok (.pop, 1) := DL_law_832.2.2.2.2.2.2.2.2.2.2.2.2.2.1
theorem dL_law_855 : decode cL_law 855 = .ok (.aload_n 2, 1) := DL_law_832.2.2.2.2.2.2.2.2.2.2.2.2.2.2.1
theorem dL_law_856 : decode cL_law 856 = .ok (.invokevirtual 121, 3) := DL_law_832.2.2.2.2.2.2.2.2.2.2.2.2.2.2.2.1
theorem dL_law_859 : decode cL_law 859 = .ok (.pop, 1) := DL_law_832.2.2.2.2.2.2.2.2.2.2.2.2.2.2.2.2.1
theorem dL_law_860 : decode cL_law 860 = .ok (.goto 366, 3) := DL_law_832.2.2.2.2.2.2.2.2.2.2.2.2.2.2.2.2.2.1
theorem dL_law_863 : decode cL_law 863 = .ok (.aload_n 1, 1) := DL_law_832.2.2.2.2.2.2.2.2.2.2.2.2.2.2.2.2.2.2.1
theorem dL_law_864 : decode cL_law 864 = .ok (.aload_n 0, 1) := DL_law_832.2.2.2.2.2.2.2.2.2.2.2.2.2.2.2.2.2.2.2.1
theorem dL_law_865 : decode cL_law 865 = .ok (.iload 4, 2) := DL_law_832.2.2.2.2.2.2.2.2.2.2.2.2.2.2.2.2.2.2.2.2.1
theorem dL_law_867 : decode cL_law 867 = .ok (.iconst 1, 1) := DL_law_832.2.2.2.2.2.2.2.2.2.2.2.2.2.2.2.2.2.2.2.2.2.1
theorem dL_law_868 : decode cL_law 868 = .ok (.iadd, 1) := DL_law_832.2.2.2.2.2.2.2.2.2.2.2.2.2.2.2.2.2.2.2.2.2.2.1
theorem dL_law_869 : decode cL_law 869 = .ok (.iaload, 1) := DL_law_832.2.2.2.2.2.2.2.2.2.2.2.2.2.2.2.2.2.2.2.2.2.2.2
theorem DL_law_870 : (decode cL_law 870 = .ok (.invokevirtual 122, 3)) ∧ (decode cL_law 873 = .ok (.pop, 1)) ∧ (decode cL_law 874 = .ok (.aload_n 2, 1)) ∧ (decode cL_law 875 = .ok (.aload_n 0, 1)) ∧ (decode cL_law 876 = .ok (.iload 4, 2)) ∧ (decode cL_law 878 = .ok (.iconst 1, 1)) ∧ (decode cL_law 879 = .ok (.iadd, 1)) ∧ (decode cL_law 880 = .ok (.iaload, 1)) ∧ (decode cL_law 881 = .ok (.invokevirtual 125, 3)) ∧ (decode cL_law 884 = .ok (.pop, 1)) ∧ (decode cL_law 885 = .ok (.goto 341, 3)) ∧ (decode cL_law 888 = .ok (.aload_n 1, 1)) ∧ (decode cL_law 889 = .ok (.invokevirtual 126, 3)) ∧ (decode cL_law 892 = .ok (.pop, 1)) ∧ (decode cL_law 893 = .ok (.aload_n 2, 1)) ∧ (decode cL_law 894 = .ok (.invokevirtual 129, 3)) ∧ (decode cL_law 897 = .ok (.pop, 1)) ∧ (decode cL_law 898 = .ok (.goto 328, 3)) ∧ (decode cL_law 901 = .ok (.aload_n 1, 1)) ∧ (decode cL_law 902 = .ok (.invokevirtual 130, 3)) ∧ (decode cL_law 905 = .ok (.pop, 1)) ∧ (decode cL_law 906 = .ok (.aload_n 2, 1)) ∧ (decode cL_law 907 = .ok (.invokevirtual 133, 3)) ∧ (decode cL_law 910 = .ok (.pop, 1)) := by decide +kernel
theorem dL_law_870 : decode cL_law 870 = .ok (.invokevirtual 122, 3) := DL_law_870.1
theorem dL_law_873 : decode cL_law 873 = .ok (.pop, 1) := DL_law_870.2.1
theorem dL_law_874 : decode cL_law 874 = .ok (.aload_n 2, 1) := DL_law_870.2.2.1
theorem dL_law_875 : decode cL_law 875 = .ok (.aload_n 0, 1) := DL_law_870.2.2.2.1
theorem dL_law_876 : decode cL_law 876 = .ok (.iload 4, 2) := DL_law_870.2.2.2.2.1
theorem dL_law_878 : decode cL_law 878 = .ok (.iconst 1, 1) := DL_law_870.2.2.2.2.2.1
theorem dL_law_879 : decode cL_law 879 = .ok (.iadd, 1) := DL_law_870.2.2.2.2.2.2.1
theorem dL_law_880 : decode cL_law 880 = .ok (.iaload, 1) := DL_law_870.2.2.2.2.2.2.2.1
theorem dL_law_881 : decode cL_law 881 = .ok (.invokevirtual 125, 3) := DL_law_870.2.2.2.2.2.2.2.2.1
theorem dL_law_884 : decode cL_law 884 = .ok (.pop, 1) := DL_law_870.2.2.2.2.2.2.2.2.2.1
theorem dL_law_885 : decode cL_law 885 = .ok (.goto 341, 3) := DL_law_870.2.2.2.2.2.2.2.2.2.2.1
theorem dL_law_888 : decode cL_law 888 = .ok (.aload_n 1, 1) := DL_law_870.2.2.2.2.2.2.2.2.2.2.2.1
theorem dL_law_889 : decode cL_law 889 = .ok (.invokevirtual 126, 3) := DL_law_870.2.2.2.2.2.2.2.2.2.2.2.2.1
theorem dL_law_892 : decode cL_law 892 = .ok (.pop, 1) := DL_law_870.2.2.2.2.2.2.2.2.2.2.2.2.2.1
theorem dL_law_893 : decode cL_law 893 = .ok (.aload_n 2, 1) := DL_law_870.2.2.2.2.2.2.2.2.2.2.2.2.2.2.1
theorem dL_law_894 : decode cL_law 894 = .ok (.invokevirtual 129, 3) := DL_law_870.2.2.2.2.2.2.2.2.2.2.2.2.2.2.2.1
theorem dL_law_897 : decode cL_law 897 = .ok (.pop, 1) := DL_law_870.2.2.2.2.2.2.2.2.2.2.2.2.2.2.2.2.1
theorem dL_law_898 : decode cL_law 898 = .ok (.goto 328, 3) := DL_law_870.2.2.2.2.2.2.2.2.2.2.2.2.2.2.2.2.2.1
theorem dL_law_901 : decode cL_law 901 = .ok (.aload_n 1, 1) := DL_law_870.2.2.2.2.2.2.2.2.2.2.2.2.2.2.2.2.2.2.1
theorem dL_law_902 : decode cL_law 902 = .ok (.invokevirtual 130, 3) := DL_law_870.2.2.2.2.2.2.2.2.2.2.2.2.2.2.2.2.2.2.2.1
theorem dL_law_905 : decode cL_law 905 = .ok (.pop, 1) := DL_law_870.2.2.2.2.2.2.2.2.2.2.2.2.2.2.2.2.2.2.2.2.1
theorem dL_law_906 : decode cL_law 906 = .ok (.aload_n 2, 1) := DL_law_870.2.2.2.2.2.2.2.2.2.2.2.2.2.2.2.2.2.2.2.2.2.1
theorem dL_law_907 : decode cL_law 907 = .ok (.invokevirtual 133, 3) := DL_law_870.2.2.2.2.2.2.2.2.2.2.2.2.2.2.2.2.2.2.2.2.2.2.1
theorem dL_law_910 : decode cL_law 910 = .ok (.pop, 1) := DL_law_870.2.2.2.2.2.2.2.2.2.2.2.2.2.2.2.2.2.2.2.2.2.2.2
theorem DL_law_911 : (decode cL_law 911 = .ok (.goto 315, 3)) ∧ (decode cL_law 914 = .ok (.aload_n 1, 1)) ∧ (decode cL_law 915 = .ok (.aload_n 0, 1)) ∧ (decode cL_law 916 = .ok (.iload 4, 2)) ∧ (decode cL_law 918 = .ok (.iconst 1, 1)) ∧ (decode cL_law 919 = .ok (.iadd, 1)) ∧ (decode cL_law 920 = .ok (.iaload, 1)) ∧ (decode cL_law 921 = .ok (.aload_n 0, 1)) ∧ (decode cL_law 922 = .ok (.iload 4, 2)) ∧ (decode cL_law 924 = .ok (.iconst 2, 1)) ∧ (decode cL_law 925 = .ok (.iadd, 1)) ∧ (decode cL_law 926 = .ok (.iaload, 1)) ∧ (decode cL_law 927 = .ok (.invokevirtual 134, 3)) ∧ (decode cL_law 930 = .ok (.pop, 1)) ∧ (decode cL_law 931 = .ok (.aload_n 2, 1)) ∧ (decode cL_law 932 = .ok (.aload_n 0, 1)) ∧ (decode cL_law 933 = .ok (.iload 4, 2)) ∧ (decode cL_law 935 = .ok (.iconst 1, 1)) ∧ (decode cL_law 936 = .ok (.iadd, 1)) ∧ (decode cL_law 937 = .ok (.iaload, 1)) ∧ (decode cL_law 938 = .ok (.aload_n 0, 1)) ∧ (decode cL_law 939 = .ok (.iload 4, 2)) ∧ (decode cL_law 941 = .ok (.iconst 2, 1)) ∧ (decode cL_law 942 = .ok (.iadd, 1)) := by decide +kernel
theorem dL_law_911 : decode cL_law 911 = .ok (.goto 315, 3) := DL_law_911.1
theorem dL_law_914 : decode cL_law 914 = .ok (.aload_n 1, 1) := DL_law_911.2.1
theorem dL_law_915 : decode cL_law 915 = .ok (.aload_n 0, 1) := DL_law_911.2.2.1
theorem dL_law_916 : decode cL_law 916 = .ok (.iload 4, 2) := DL_law_911.2.2.2.1
theorem dL_law_918 : decode cL_law 918 = .ok (.iconst 1, 1) := DL_law_911.2.2.2.2.1
theorem dL_law_919 : decode cL_law 919 = .ok (.iadd, 1) := DL_law_911.2.2.2.2.2.1
theorem dL_law_920 : decode cL_law 920 = .ok (.iaload, 1) := DL_law_911.2.2.2.2.2.2.1
theorem dL_law_921 : decode cL_law 921 = .ok (.aload_n 0, 1) := DL_law_911.2.2.2.2.2.2.2.1
theorem dL_law_922 : decode cL_law 922 = .ok (.iload 4, 2) := DL_law_911.2.2.2.2.2.2.2.2.1
theorem dL_law_924 : decode cL_law 924 = .ok (.iconst 2, 1) := DL_law_911.2.2.2.2.2.2.2.2.2.1
theorem dL_law_925 : decode cL_law 925 = .ok (.iadd, 1) := DL_law_911.2.2.2.2.2.2.2.2.2.2.1
theorem dL_law_926 : decode cL_law 926 = .ok (.iaload, 1) := DL_law_911.2.2.2.2.2.2.2.2.2.2.2.1
theorem dL_law_927 : decode cL_law 927 = .ok (.invokevirtual 134, 3) := DL_law_911.2.2.2.2.2.2.2.2.2.2.2.2.1
theorem dL_law_930 : decode cL_law 930 = .ok (.pop, 1) := DL_law_911.2.2.2.2.2.2.2.2.2.2.2.2.2.1
theorem dL_law_931 : decode cL_law 931 = .ok (.aload_n 2, 1) := DL_law_911.2.2.2.2.2.2.2.2.2.2.2.2.2.2.1
theorem dL_law_932 : decode cL_law 932 = .ok (.aload_n 0, 1) := DL_law_911.2.2.2.2.2.2.2.2.2.2.2.2.2.2.2.1
theorem dL_law_933 : decode cL_law 933 = .ok (.iload 4, 2) := DL_law_911.2.2.2.2.2.2.2.2.2.2.2.2.2.2.2.2.1
theorem dL_law_935 : decode cL_law 935 = .ok (.iconst 1, 1) := DL_law_911.2.2.2.2.2.2.2.2.2.2.2.2.2.2.2.2.2.1
theorem dL_law_936 : decode cL_law 936 = .ok (.iadd, 1) := DL_law_911.2.2.2.2.2.2.2.2.2.2.2.2.2.2.2.2.2.2.1
theorem dL_law_937 : decode cL_law 937 = .ok (.iaload, 1) := DL_law_911.2.2.2.2.2.2.2.2.2.2.2.2.2.2.2.2.2.2.2.1
theorem dL_law_938 : decode cL_law 938 = .ok (.aload_n 0, 1) := DL_law_911.2.2.2.2.2.2.2.2.2.2.2.2.2.2.2.2.2.2.2.2.1
theorem dL_law_939 : decode cL_law 939 = .ok (.iload 4, 2) := DL_law_911.2.2.2.2.2.2.2.2.2.2.2.2.2.2.2.2.2.2.2.2.2.1
theorem dL_law_941 : decode cL_law 941 = .ok (.iconst 2, 1) := DL_law_911.2.2.2.2.2.2.2.2.2.2.2.2.2.2.2.2.2.2.2.2.2.2.1
theorem dL_law_942 : decode cL_law 942 = .ok (.iadd, 1) := DL_law_911.2.2.2.2.2.2.2.2.2.2.2.2.2.2.2.2.2.2.2.2.2.2.2
theorem DL_law_943 : (decode cL_law 943 = .ok (.iaload, 1)) ∧ (decode cL_law 944 = .ok (.invokevirtual 137, 3)) ∧ (decode cL_law 947 = .ok (.pop, 1)) ∧ (decode cL_law 948 = .ok (.goto 278, 3)) ∧ (decode cL_law 951 = .ok (.aload_n 1, 1)) ∧ (decode cL_law 952 = .ok (.invokevirtual 138, 3)) ∧ (decode cL_law 955 = .ok (.pop, 1)) ∧ (decode cL_law 956 = .ok (.aload_n 2, 1)) ∧ (decode cL_law 957 = .ok (.invokevirtual 142, 3)) ∧ (decode cL_law 960 = .ok (.pop, 1)) ∧ (decode cL_law 961 = .ok (.goto 265, 3)) ∧ (decode cL_law 964 = .ok (.aload_n 1, 1)) ∧ (decode cL_law 965 = .ok (.aload_n 0, 1)) ∧ (decode cL_law 966 = .ok (.iload 4, 2)) ∧ (decode cL_law 968 = .ok (.iconst 1, 1)) ∧ (decode cL_law 969 = .ok (.iadd, 1)) ∧ (decode cL_law 970 = .ok (.iaload, 1)) ∧ (decode cL_law 971 = .ok (.invokevirtual 143, 3)) ∧ (decode cL_law 974 = .ok (.pop, 1)) ∧ (decode cL_law 975 = .ok (.aload_n 2, 1)) ∧ (decode cL_law 976 = .ok (.aload_n 0, 1)) ∧ (decode cL_law 977 = .ok (.iload 4, 2)) ∧ (decode cL_law 979 = .ok (.iconst 1, 1)) ∧ (decode cL_law 980 = .ok (.iadd, 1)) := by decide +kernel
theorem dL_law_943 : decode cL_law 943 = .ok (.iaload, 1) := DL_law_943.1
theorem dL_law_944 : decode cL_law 944 = .ok (.invokevirtual 137, 3) := DL_law_943.2.1
theorem dL_law_947 : decode cL_law 947 = .ok (.pop, 1) := DL_law_943.2.2.1
theorem dL_law_948 : decode cL_law 948 = .ok (.goto 278, 3) := DL_law_943.2.2.2.1
theorem dL_law_951 : decode cL_law 951 = .ok (.aload_n 1, 1) := DL_law_943.2.2.2.2.1
theorem dL_law_952 : decode cL_law 952 = .ok (.invokevirtual 138, 3) := DL_law_943.2.2.2.2.2.1
theorem dL_law_955 : decode cL_law 955 = .ok (.pop, 1) := DL_law_943.2.2.2.2.2.2.1
theorem dL_law_956 : decode cL_law 956 = .ok (.aload_n 2, 1) := DL_law_943.2.2.2.2.2.2.2.1
theorem dL_law_957 : decode cL_law 957 = .ok (.invokevirtual 142, 3) := DL_law_943.2.2.2.2.2.2.2.2.1
theorem dL_law_960 : decode cL_law 960 = .ok (.pop, 1) := DL_law_943.2.2.2.2.2.2.2.2.2.1
theorem dL_law_961 : decode cL_law 961 = .ok (.goto 265, 3) := DL_law_943.2.2.2.2.2.2.2.2.2.2.1
theorem dL_law_964 : decode cL_law 964 = .ok (.aload_n 1, 1) := DL_law_943.2.2.2.2.2.2.2.2.2.2.2.1
theorem dL_law_965 : decode cL_law 965 = .ok (.aload_n 0, 1) := DL_law_943.2.2.2.2.2.2.2.2.2.2.2.2.1
theorem dL_law_966 : decode cL_law 966 = .ok (.iload 4, 2) := DL_law_943.2.2.2.2.2.2.2.2.2.2.2.2.2.1
theorem dL_law_968 : decode cL_law 968 = .ok (.iconst 1, 1) := DL_law_943.2.2.2.2.2.2.2.2.2.2.2.2.2.2.1
theorem dL_law_969 : decode cL_law 969 = .ok (.iadd, 1) := DL_law_943.2.2.2.2.2.2.2.2.2.2.2.2.2.2.2.1
theorem dL_law_970 : decode cL_law 970 = .ok (.iaload, 1) := DL_law_943.2.2.2.2.2.2.2.2.2.2.2.2.2.2.2.2.1
theorem dL_law_971 : decode cL_law 971 = .ok (.invokevirtual 143, 3) := DL_law_943.2.2.2.2.2.2.2.2.2.2.2.2.2.2.2.2.2.1
theorem dL_law_974 : decode cL_law 974 = .ok (.pop, 1) := DL_law_943.2.2.2.2.2.2.2.2.2.2.2.2.2.2.2.2.2.2.1
theorem dL_law_975 : decode cL_law 975 = .ok (.aload_n 2, 1) := DL_law_943.2.2.2.2.2.2.2.2.2.2.2.2.2.2.2.2.2.2.2.1
theorem dL_law_976 : decode cL_law 976 = .ok (.aload_n 0, 1) := DL_law_943.2.2.2.2.2.2.2.2.2.2.2.2.2.2.2.2.2.2.2.2.1
theorem dL_law_977 : decode cL_law 977 = .ok (.iload 4, 2) := DL_law_943.2.2.2.2.2.2.2.2.2.2.2.2.2.2.2.2.2.2.2.2.2.1
theorem dL_law_979 : decode cL_law 979 = .ok (.iconst 1, 1) := DL_law_943.2.2.2.2.2.2.2.2.2.2.2.2.2.2.2.2.2.2.2.2.2.2.1
theorem dL_law_980 : decode cL_law 980 = .ok (.iadd, 1) := DL_law_943.2.2.2.2.2.2.2.2.2.2.2.2.2.2.2.2.2.2.2.2.2.2.2
theorem DL_law_981 : (decode cL_law 981 = .ok (.iaload, 1)) ∧ (decode cL_law 982 = .ok (.invokevirtual 146, 3)) ∧ (decode cL_law 985 = .ok (.pop, 1)) ∧ (decode cL_law 986 = .ok (.goto 240, 3)) ∧ (decode cL_law 989 = .ok (.aload_n 1, 1)) ∧ (decode cL_law 990 = .ok (.aload_n 0, 1)) ∧ (decode cL_law 991 = .ok (.iload 4, 2)) ∧ (decode cL_law 993 = .ok (.iconst 1, 1)) ∧ (decode cL_law 994 = .ok (.iadd, 1)) ∧ (decode cL_law 995 = .ok (.iaload, 1)) ∧ (decode cL_law 996 = .ok (.aload_n 0, 1)) ∧ (decode cL_law 997 = .ok (.iload 4, 2)) ∧ (decode cL_law 999 = .ok (.iconst 2, 1)) ∧ (decode cL_law 1000 = .ok (.iadd, 1)) ∧ (decode cL_law 1001 = .ok (.iaload, 1)) ∧ (decode cL_law 1002 = .ok (.invokevirtual 147, 3)) ∧ (decode cL_law 1005 = .ok (.pop, 1)) ∧ (decode cL_law 1006 = .ok (.aload_n 2, 1)) ∧ (decode cL_law 1007 = .ok (.aload_n 0, 1)) ∧ (decode cL_law 1008 = .ok (.iload 4, 2)) ∧ (decode cL_law 1010 = .ok (.iconst 1, 1)) ∧ (decode cL_law 1011 = .ok (.iadd, 1)) ∧ (decode cL_law 1012 = .ok (.iaload, 1)) ∧ (decode cL_law 1013 = .ok (.aload_n 0, 1)) := by decide +kernel
theorem dL_law_981 : decode cL_law 981 = .ok (.iaload, 1) := DL_law_981.1
theorem dL_law_982 : decode cL_law 982 = .ok (.invokevirtual 146, 3) := DL_law_981.2.1
theorem dL_law_985 : decode cL_law 985 = .ok (.pop, 1) := DL_law_981.2.2.1
theorem dL_law_986 : decode cL_law 986 = .ok (.goto 240, 3) := DL_law_981.2.2.2.1
theorem dL_law_989 : decode cL_law 989 = .ok (.aload_n 1, 1) := DL_law_981.2.2.2.2.1
theorem dL_law_990 : decode cL_law 990 = .ok (.aload_n 0, 1) := DL_law_981.2.2.2.2.2.1
theorem dL_law_991 : decode cL_law 991 = .ok (.iload 4, 2) := DL_law_981.2.2.2.2.2.2.1
theorem dL_law_993 : decode cL_law 993 = .ok (.iconst 1, 1) := DL_law_981.2.2.2.2.2.2.2.1
theorem dL_law_994 : decode cL_law 994 = .ok (.iadd, 1) := DL_law_981.2.2.2.2.2.2.2.2.1
theorem dL_law_995 : decode cL_law 995 = .ok (.iaload, 1) := DL_law_981.2.2.2.2.2.2.2.2.2.1
theorem dL_law_996 : decode cL_law 996 = .ok (.aload_n 0, 1) := DL_law_981.2.2.2.2.2.2.2.2.2.2.1
theorem dL_law_997 : decode cL_law 997 = .ok (.iload 4, 2) := DL_law_981.2.2.2.2.2.2.2.2.2.2.2.1
theorem dL_law_999 : decode cL_law 999 = .ok (.iconst 2, 1) := DL_law_981.2.2.2.2.2.2.2.2.2.2.2.2.1
theorem dL_law_1000 : decode cL_law 1000 = .ok (.iadd, 1) := DL_law_981.2.2.2.2.2.2.2.2.2.2.2.2.2.1
theorem dL_law_1001 : decode cL_law 1001 = .ok (.iaload, 1) := DL_law_981.2.2.2.2.2.2.2.2.2.2.2.2.2.2.1
theorem dL_law_1002 : decode cL_law 1002 = .ok (.invokevirtual 147, 3) := DL_law_981.2.2.2.2.2.2.2.2.2.2.2.2.2.2.2.1
theorem dL_law_1005 : decode cL_law 1005 = .ok (.pop, 1) := DL_law_981.2.2.2.2.2.2.2.2.2.2.2.2.2.2.2.2.1
theorem dL_law_1006 : decode cL_law 1006 = .ok (.aload_n 2, 1) := DL_law_981.2.2.2.2.2.2.2.2.2.2.2.2.2.2.2.2.2.1
theorem dL_law_1007 : decode cL_law 1007 = .ok (.aload_n 0, 1) := DL_law_981.2.2.2.2.2.2.2.2.2.2.2.2.2.2.2.2.2.2.1
theorem dL_law_1008 : decode cL_law 1008 = .ok (.iload 4, 2) := DL_law_981.2.2.2.2.2.2.2.2.2.2.2.2.2.2.2.2.2.2.2.1
theorem dL_law_1010 : decode cL_law 1010 = .ok (.iconst 1, 1) := DL_law_981.2.2.2.2.2.2.2.2.2.2.2.2.2.2.2.2.2.2.2.2.1
theorem dL_law_1011 : decode cL_law 1011 = .ok (.iadd, 1) := DL_law_981.2.2.2.2.2.2.2.2.2.2.2.2.2.2.2.2.2.2.2.2.2.1
theorem dL_law_1012 : decode cL_law 1012 = .ok (.iaload, 1) := DL_law_981.2.2.2.2.2.2.2.2.2.2.2.2.2.2.2.2.2.2.2.2.2.2.1
theorem dL_law_1013 : decode cL_law 1013 = .ok (.aload_n 0, 1) := DL_law_981.2.2.2.2.2.2.2.2.2.2.2.2.2.2.2.2.2.2.2.2.2.2.2
theorem DL_law_1014 : (decode cL_law 1014 = .ok (.iload 4, 2)) ∧ (decode cL_law 1016 = .ok (.iconst 2, 1)) ∧ (decode cL_law 1017 = .ok (.iadd, 1)) ∧ (decode cL_law 1018 = .ok (.iaload, 1)) ∧ (decode cL_law 1019 = .ok (.invokevirtual 150, 3)) ∧ (decode cL_law 1022 = .ok (.pop, 1)) ∧ (decode cL_law 1023 = .ok (.goto 203, 3)) ∧ (decode cL_law 1026 = .ok (.aload_n 1, 1)) ∧ (decode cL_law 1027 = .ok (.aload_n 0, 1)) ∧ (decode cL_law 1028 = .ok (.iload 4, 2)) ∧ (decode cL_law 1030 = .ok (.iconst 1, 1)) ∧ (decode cL_law 1031 = .ok (.iadd, 1)) ∧ (decode cL_law 1032 = .ok (.iaload, 1)) ∧ (decode cL_law 1033 = .ok (.invokevirtual 151, 3)) ∧ (decode cL_law 1036 = .ok (.pop, 1)) ∧ (decode cL_law 1037 = .ok (.aload_n 2, 1)) ∧ (decode cL_law 1038 = .ok (.aload_n 0, 1)) ∧ (decode cL_law 1039 = .ok (.iload 4, 2)) ∧ (decode cL_law 1041 = .ok (.iconst 1, 1)) ∧ (decode cL_law 1042 = .ok (.iadd, 1)) ∧ (decode cL_law 1043 = .ok (.iaload, 1)) ∧ (decode cL_law 1044 = .ok (.invokevirtual 154, 3)) ∧ (decode cL_law 1047 = .ok (.pop, 1)) ∧ (decode cL_law 1048 = .ok (.goto 178, 3)) := by decide +kernel
theorem dL_law_1014 : decode cL_law 1014 = .ok (.iload 4, 2) := DL_law_1014.1
theorem dL_law_1016 : decode cL_law 1016 = .ok (.iconst 2, 1) := DL_law_1014.2.1
theorem dL_law_1017 : decode cL_law 1017 = .ok (.iadd, 1) := DL_law_1014.2.2.1
theorem dL_law_1018 : decode cL_law 1018 = .ok (.iaload, 1) := DL_law_1014.2.2.2.1
theorem dL_law_1019 : decode cL_law 1019 = .ok (.invokevirtual 150, 3) := DL_law_1014.2.2.2.2.1
theorem dL_law_1022 : decode cL_law 1022 = .ok (.pop, 1) := DL_law_1014.2.2.2.2.2.1
theorem dL_law_1023 : decode cL_law 1023 = .ok (.goto 203, 3) := DL_law_1014.2.2.2.2.2.2.1
theorem dL_law_1026 : decode cL_law 1026 = .ok (.aload_n 1, 1) := DL_law_1014.2.2.2.2.2.2.2.1
theorem dL_law_1027 : decode cL_law 1027 = .ok (.aload_n 0, 1) := DL_law_1014.2.2.2.2.2.2.2.2.1
theorem dL_law_1028 : decode cL_law 1028 = .ok (.iload 4, 2) := DL_law_1014.2.2.2.2.2.2.2.2.2.1
theorem dL_law_1030 : decode cL_law 1030 = .ok (.iconst 1, 1) := DL_law_1014.2.2.2.2.2.2.2.2.2.2.1
theorem dL_law_1031 : decode cL_law 1031 = .ok (.iadd, 1) := DL_law_1014.2.2.2.2.2.2.2.2.2.2.2.1
theorem dL_law_1032 : decode cL_law 1032 = .ok (.iaload, 1) := DL_law_1014.2.2.2.2.2.2.2.2.2.2.2.2.1
theorem dL_law_1033 : decode cL_law 1033 = .ok (.invokevirtual 151, 3) := DL_law_1014.2.2.2.2.2.2.2.2.2.2.2.2.2.1
theorem dL_law_1036 : decode cL_law 1036 = .ok (.pop, 1) := DL_law_1014.2.2.2.2.2.2.2.2.2.2.2.2.2.2.1
theorem dL_law_1037 : decode cL_law 1037 = .ok (.aload_n 2, 1) := DL_law_1014.2.2.2.2.2.2.2.2.2.2.2.2.2.2.2.1
theorem dL_law_1038 : decode cL_law 1038 = .ok (.aload_n 0, 1) := DL_law_1014.2.2.2.2.2.2.2.2.2.2.2.2.2.2.2.2.1
theorem dL_law_1039 : decode cL_law 1039 = .ok (.iload 4, 2) := DL_law_1014.2.2.2.2.2.2.2.2.2.2.2.2.2.2.2.2.2.1
theorem dL_law_1041 : decode cL_law 1041 = .ok (.iconst 1, 1) := DL_law_1014.2.2.2.2.2.2.2.2.2.2.2.2.2.2.2.2.2.2.1
theorem dL_law_1042 : decode cL_law 1042 = .ok (.iadd, 1) := DL_law_1014.2.2.2.2.2.2.2.2.2.2.2.2.2.2.2.2.2.2.2.1
theorem dL_law_1043 : decode cL_law 1043 = .ok (.iaload, 1) := DL_law_1014.2.2.2.2.2.2.2.2.2.2.2.2.2.2.2.2.2.2.2.2.1
theorem dL_law_1044 : decode cL_law 1044 = .ok (.invokevirtual 154, 3) := DL_law_1014.2.2.2.2.2.2.2.2.2.2.2.2.2.2.2.2.2.2.2.2.2.1
theorem dL_law_1047 : decode cL_law 1047 = .ok (.pop, 1) := DL_law_1014.2.2.2.2.2.2.2.2.2.2.2.2.2.2.2.2.2.2.2.2.2.2.1
theorem dL_law_1048 : decode cL_law 1048 = .ok (.goto 178, 3) := DL_law_1014.2.2.2.2.2.2.2.2.2.2.2.2.2.2.2.2.2.2.2.2.2.2.2
theorem DL_law_1051 : (decode cL_law 1051 = .ok (.aload_n 1, 1)) ∧ (decode cL_law 1052 = .ok (.aload_n 0, 1)) ∧ (decode cL_law 1053 = .ok (.iload 4, 2)) ∧ (decode cL_law 1055 = .ok (.iconst 1, 1)) ∧ (decode cL_law 1056 = .ok (.iadd, 1)) ∧ (decode cL_law 1057 = .ok (.iaload, 1)) ∧ (decode cL_law 1058 = .ok (.aload_n 0, 1)) ∧ (decode cL_law 1059 = .ok (.iload 4, 2)) ∧ (decode cL_law 1061 = .ok (.iconst 2, 1)) ∧ (decode cL_law 1062 = .ok (.iadd, 1)) ∧ (decode cL_law 1063 = .ok (.iaload, 1)) ∧ (decode cL_law 1064 = .ok (.aload_n 0, 1)) ∧ (decode cL_law 1065 = .ok (.iload 4, 2)) ∧ (decode cL_law 1067 = .ok (.iconst 3, 1)) ∧ (decode cL_law 1068 = .ok (.iadd, 1)) ∧ (decode cL_law 1069 = .ok (.iaload, 1)) ∧ (decode cL_law 1070 = .ok (.invokevirtual 155, 3)) ∧ (decode cL_law 1073 = .ok (.pop, 1)) ∧ (decode cL_law 1074 = .ok (.aload_n 2, 1)) ∧ (decode cL_law 1075 = .ok (.aload_n 0, 1)) ∧ (decode cL_law 1076 = .ok (.iload 4, 2)) ∧ (decode cL_law 1078 = .ok (.iconst 1, 1)) ∧ (decode cL_law 1079 = .ok (.iadd, 1)) ∧ (decode cL_law 1080 = .ok (.iaload, 1)) := by decide +kernel
theorem dL_law_1051 : decode cL_law 1051 = .ok (.aload_n 1, 1) := DL_law_1051.1
theorem dL_law_1052 : decode cL_law 1052 = .ok (.aload_n 0, 1) := DL_law_1051.2.1
theorem dL_law_1053 : decode cL_law 1053 = .ok (.iload 4, 2) := DL_law_1051.2.2.1
theorem dL_law_1055 : decode cL_law 1055 = .ok (.iconst 1, 1) := DL_law_1051.2.2.2.1
theorem dL_law_1056 : decode cL_law 1056 = .ok (.iadd, 1) := DL_law_1051.2.2.2.2.1
theorem dL_law_1057 : decode cL_law 1057 = .ok (.iaload, 1) := DL_law_1051.2.2.2.2.2.1
theorem dL_law_1058 : decode cL_law 1058 = .ok (.aload_n 0, 1) := DL_law_1051.2.2.2.2.2.2.1
theorem dL_law_1059 : decode cL_law 1059 = .ok (.iload 4, 2) := DL_law_1051.2.2.2.2.2.2.2.1
theorem dL_law_1061 : decode cL_law 1061 = .ok (.iconst 2, 1) := DL_law_1051.2.2.2.2.2.2.2.2.1
theorem dL_law_1062 : decode cL_law 1062 = .ok (.iadd, 1) := DL_law_1051.2.2.2.2.2.2.2.2.2.1
theorem dL_law_1063 : decode cL_law 1063 = .ok (.iaload, 1) := DL_law_1051.2.2.2.2.2.2.2.2.2.2.1
theorem dL_law_1064 : decode cL_law 1064 = .ok (.aload_n 0, 1) := DL_law_1051.2.2.2.2.2.2.2.2.2.2.2.1
theorem dL_law_1065 : decode cL_law 1065 = .ok (.iload 4, 2) := DL_law_1051.2.2.2.2.2.2.2.2.2.2.2.2.1
theorem dL_law_1067 : decode cL_law 1067 = .ok (.iconst 3, 1) := DL_law_1051.2.2.2.2.2.2.2.2.2.2.2.2.2.1
theorem dL_law_1068 : decode cL_law 1068 = .ok (.iadd, 1) := DL_law_1051.2.2.2.2.2.2.2.2.2.2.2.2.2.2.1
theorem dL_law_1069 : decode cL_law 1069 = .ok (.iaload, 1) := DL_law_1051.2.2.2.2.2.2.2.2.2.2.2.2.2.2.2.1
theorem dL_law_1070 : decode cL_law 1070 = .ok (.invokevirtual 155, 3) := DL_law_1051.2.2.2.2.2.2.2.2.2.2.2.2.2.2.2.2.1
theorem dL_law_1073 : decode cL_law 1073 = .ok (.pop, 1) := DL_law_1051.2.2.2.2.2.2.2.2.2.2.2.2.2.2.2.2.2.1
theorem dL_law_1074 : decode cL_law 1074 = .ok (.aload_n 2, 1) := DL_law_1051.2.2.2.2.2.2.2.2.2.2.2.2.2.2.2.2.2.2.1
theorem dL_law_1075 : decode cL_law 1075 = .ok (.aload_n 0, 1) := DL_law_1051.2.2.2.2.2.2.2.2.2.2.2.2.2.2.2.2.2.2.2.1
theorem dL_law_1076 : decode cL_law 1076 = .ok (.iload 4, 2) := DL_law_1051.2.2.2.2.2.2.2.2.2.2.2.2.2.2.2.2.2.2.2.2.1
theorem dL_law_1078 : decode cL_law 1078 = .ok (.iconst 1, 1) := DL_law_1051.2.2.2.2.2.2.2.2.2.2.2.2.2.2.2.2.2.2.2.2.2.1
theorem dL_law_1079 : decode cL_law 1079 = .ok (.iadd, 1) := DL_law_1051.2.2.2.2.2.2.2.2.2.2.2.2.2.2.2.2.2.2.2.2.2.2.1
theorem dL_law_1080 : decode cL_law 1080 = .ok (.iaload, 1) := DL_law_1051.2.2.2.2.2.2.2.2.2.2.2.2.2.2.2.2.2.2.2.2.2.2.2
theorem DL_law_1081 : (decode cL_law 1081 = .ok (.aload_n 0, 1)) ∧ (decode cL_law 1082 = .ok (.iload 4, 2)) ∧ (decode cL_law 1084 = .ok (.iconst 2, 1)) ∧ (decode cL_law 1085 = .ok (.iadd, 1)) ∧ (decode cL_law 1086 = .ok (.iaload, 1)) ∧ (decode cL_law 1087 = .ok (.aload_n 0, 1)) ∧ (decode cL_law 1088 = .ok (.iload 4, 2)) ∧ (decode cL_law 1090 = .ok (.iconst 3, 1)) ∧ (decode cL_law 1091 = .ok (.iadd, 1)) ∧ (decode cL_law 1092 = .ok (.iaload, 1)) ∧ (decode cL_law 1093 = .ok (.invokevirtual 159, 3)) ∧ (decode cL_law 1096 = .ok (.pop, 1)) ∧ (decode cL_law 1097 = .ok (.goto 129, 3)) ∧ (decode cL_law 1100 = .ok (.aload_n 1, 1)) ∧ (decode cL_law 1101 = .ok (.invokevirtual 160, 3)) ∧ (decode cL_law 1104 = .ok (.pop, 1)) ∧ (decode cL_law 1105 = .ok (.aload_n 2, 1)) ∧ (decode cL_law 1106 = .ok (.invokevirtual 163, 3)) ∧ (decode cL_law 1109 = .ok (.pop, 1)) ∧ (decode cL_law 1110 = .ok (.goto 116, 3)) ∧ (decode cL_law 1113 = .ok (.aload_n 1, 1)) ∧ (decode cL_law 1114 = .ok (.invokevirtual 164, 3)) ∧ (decode cL_law 1117 = .ok (.pop, 1)) ∧ (decode cL_law 1118 = .ok (.aload_n 2, 1)) := by decide +kernel
theorem dL_law_1081 : decode cL_law 1081 = .ok (.aload_n 0, 1) := DL_law_1081.1
theorem dL_law_1082 : decode cL_law 1082 = .ok (.iload 4, 2) := DL_law_1081.2.1
theorem dL_law_1084 : decode cL_law 1084 = .ok (.iconst 2, 1) := DL_law_1081.2.2.1
theorem dL_law_1085 : decode cL_law 1085 = .ok (.iadd, 1) := DL_law_1081.2.2.2.1
theorem dL_law_1086 : decode cL_law 1086 = .ok (.iaload, 1) := DL_law_1081.2.2.2.2.1
theorem dL_law_1087 : decode cL_law 1087 = .ok (.aload_n 0, 1) := DL_law_1081.2.2.2.2.2.1
theorem dL_law_1088 : decode cL_law 1088 = .ok (.iload 4, 2) := DL_law_1081.2.2.2.2.2.2.1
theorem dL_law_1090 : decode cL_law 1090 = .ok (.iconst 3, 1) := DL_law_1081.2.2.2.2.2.2.2.1
theorem dL_law_1091 : decode cL_law 1091 = .ok (.iadd, 1) := DL_law_1081.2.2.2.2.2.2.2.2.1
theorem dL_law_1092 : decode cL_law 1092 = .ok (.iaload, 1) := DL_law_1081.2.2.2.2.2.2.2.2.2.1
theorem dL_law_1093 : decode cL_law 1093 = .ok (.invokevirtual 159, 3) := DL_law_1081.2.2.2.2.2.2.2.2.2.2.1
theorem dL_law_1096 : decode cL_law 1096 = .ok (.pop, 1) := DL_law_1081.2.2.2.2.2.2.2.2.2.2.2.1
theorem dL_law_1097 : decode cL_law 1097 = .ok (.goto 129, 3) := DL_law_1081.2.2.2.2.2.2.2.2.2.2.2.2.1
theorem dL_law_1100 : decode cL_law 1100 = .ok (.aload_n 1, 1) := DL_law_1081.2.2.2.2.2.2.2.2.2.2.2.2.2.1
theorem dL_law_1101 : decode cL_law 1101 = .ok (.invokevirtual 160, 3) := DL_law_1081.2.2.2.2.2.2.2.2.2.2.2.2.2.2.1
theorem dL_law_1104 : decode cL_law 1104 = .ok (.pop, 1) := DL_law_1081.2.2.2.2.2.2.2.2.2.2.2.2.2.2.2.1
theorem dL_law_1105 : decode cL_law 1105 = .ok (.aload_n 2, 1) := DL_law_1081.2.2.2.2.2.2.2.2.2.2.2.2.2.2.2.2.1
theorem dL_law_1106 : decode cL_law 1106 = .ok (.invokevirtual 163, 3) := DL_law_1081.2.2.2.2.2.2.2.2.2.2.2.2.2.2.2.2.2.1
theorem dL_law_1109 : decode cL_law 1109 = .ok (.pop, 1) := DL_law_1081.2.2.2.2.2.2.2.2.2.2.2.2.2.2.2.2.2.2.1
theorem dL_law_1110 : decode cL_law 1110 = .ok (.goto 116, 3) := DL_law_1081.2.2.2.2.2.2.2.2.2.2.2.2.2.2.2.2.2.2.2.1
theorem dL_law_1113 : decode cL_law 1113 = .ok (.aload_n 1, 1) := DL_law_1081.2.2.2.2.2.2.2.2.2.2.2.2.2.2.2.2.2.2.2.2.1
theorem dL_law_1114 : decode cL_law 1114 = .ok (.invokevirtual 164, 3) := DL_law_1081.2.2.2.2.2.2.2.2.2.2.2.2.2.2.2.2.2.2.2.2.2.1
theorem dL_law_1117 : decode cL_law 1117 = .ok (.pop, 1) := DL_law_1081.2.2.2.2.2.2.2.2.2.2.2.2.2.2.2.2.2.2.2.2.2.2.1
theorem dL_law_1118 : decode cL_law 1118 = .ok (.aload_n 2, 1) := DL_law_1081.2.2.2.2.2.2.2.2.2.2.2.2.2.2.2.2.2.2.2.2.2.2.2
theorem DL_law_1119 : (decode cL_law 1119 = .ok (.invokevirtual 167, 3)) ∧ (decode cL_law 1122 = .ok (.pop, 1)) ∧ (decode cL_law 1123 = .ok (.goto 103, 3)) ∧ (decode cL_law 1126 = .ok (.aload_n 1, 1)) ∧ (decode cL_law 1127 = .ok (.aload_n 0, 1)) ∧ (decode cL_law 1128 = .ok (.iload 4, 2)) ∧ (decode cL_law 1130 = .ok (.iconst 1, 1)) ∧ (decode cL_law 1131 = .ok (.iadd, 1)) ∧ (decode cL_law 1132 = .ok (.iaload, 1)) ∧ (decode cL_law 1133 = .ok (.invokevirtual 168, 3)) ∧ (decode cL_law 1136 = .ok (.pop, 1)) ∧ (decode cL_law 1137 = .ok (.aload_n 2, 1)) ∧ (decode cL_law 1138 = .ok (.aload_n 0, 1)) ∧ (decode cL_law 1139 = .ok (.iload 4, 2)) ∧ (decode cL_law 1141 = .ok (.iconst 1, 1)) ∧ (decode cL_law 1142 = .ok (.iadd, 1)) ∧ (decode cL_law 1143 = .ok (.iaload, 1)) ∧ (decode cL_law 1144 = .ok (.invokevirtual 171, 3)) ∧ (decode cL_law 1147 = .ok (.pop, 1)) ∧ (decode cL_law 1148 = .ok (.goto 78, 3)) ∧ (decode cL_law 1151 = .ok (.aload_n 1, 1)) ∧ (decode cL_law 1152 = .ok (.aload_n 0, 1)) ∧ (decode cL_law 1153 = .ok (.iload 4, 2)) ∧ (decode cL_law 1155 = .ok (.iconst 1, 1)) := by decide +kernel
theorem dL_law_1119 : decode cL_law 1119 = .ok (.invokevirtual 167, 3) := DL_law_1119.1
theorem dL_law_1122 : decode cL_law 1122 = .ok (.pop, 1) := DL_law_1119.2.1
theorem dL_law_1123 : decode cL_law 1123 = .ok (.goto 103, 3) := DL_law_1119.2.2.1
theorem dL_law_1126 : decode cL_law 1126 = .ok (.aload_n 1, 1) := DL_law_1119.2.2.2.1
theorem dL_law_1127 : decode cL_law 1127 = .ok (.aload_n 0, 1) := DL_law_1119.2.2.2.2.1
theorem dL_law_1128 : decode cL_law 1128 = .ok (.iload 4, 2) := DL_law_1119.2.2.2.2.2.1
theorem dL_law_1130 : decode cL_law 1130 = .ok (.iconst 1, 1) := DL_law_1119.2.2.2.2.2.2.1
theorem dL_law_1131 : decode cL_law 1131 = .ok (.iadd, 1) := DL_law_1119.2.2.2.2.2.2.2.1
theorem dL_law_1132 : decode cL_law 1132 = .ok (.iaload, 1) := DL_law_1119.2.2.2.2.2.2.2.2.1
theorem dL_law_1133 : decode cL_law 1133 = .ok (.invokevirtual 168, 3) := DL_law_1119.2.2.2.2.2.2.2.2.2.1
theorem dL_law_1136 : decode cL_law 1136 = .ok (.pop, 1) := DL_law_1119.2.2.2.2.2.2.2.2.2.2.1
theorem dL_law_1137 : decode cL_law 1137 = .ok (.aload_n 2, 1) := DL_law_1119.2.2.2.2.2.2.2.2.2.2.2.1
theorem dL_law_1138 : decode cL_law 1138 = .ok (.aload_n 0, 1) := DL_law_1119.2.2.2.2.2.2.2.2.2.2.2.2.1
theorem dL_law_1139 : decode cL_law 1139 = .ok (.iload 4, 2) := DL_law_1119.2.2.2.2.2.2.2.2.2.2.2.2.2.1
theorem dL_law_1141 : decode cL_law 1141 = .ok (.iconst 1, 1) := DL_law_1119.2.2.2.2.2.2.2.2.2.2.2.2.2.2.1
theorem dL_law_1142 : decode cL_law 1142 = .ok (.iadd, 1) := DL_law_1119.2.2.2.2.2.2.2.2.2.2.2.2.2.2.2.1
theorem dL_law_1143 : decode cL_law 1143 = .ok (.iaload, 1) := DL_law_1119.2.2.2.2.2.2.2.2.2.2.2.2.2.2.2.2.1
theorem dL_law_1144 : decode cL_law 1144 = .ok (.invokevirtual 171, 3) := DL_law_1119.2.2.2.2.2.2.2.2.2.2.2.2.2.2.2.2.2.1
theorem dL_law_1147 : decode cL_law 1147 = .ok (.pop, 1) := DL_law_1119.2.2.2.2.2.2.2.2.2.2.2.2.2.2.2.2.2.2.1
theorem dL_law_1148 : decode cL_law 1148 = .ok (.goto 78, 3) := DL_law_1119.2.2.2.2.2.2.2.2.2.2.2.2.2.2.2.2.2.2.2.1
theorem dL_law_1151 : decode cL_law 1151 = .ok (.aload_n 1, 1) := DL_law_1119.2.2.2.2.2.2.2.2.2.2.2.2.2.2.2.2.2.2.2.2.1
theorem dL_law_1152 : decode cL_law 1152 = .ok (.aload_n 0, 1) := DL_law_1119.2.2.2.2.2.2.2.2.2.2.2.2.2.2.2.2.2.2.2.2.2.1
theorem dL_law_1153 : decode cL_law 1153 = .ok (.iload 4, 2) := DL_law_1119.2.2.2.2.2.2.2.2.2.2.2.2.2.2.2.2.2.2.2.2.2.2.1
theorem dL_law_1155 : decode cL_law 1155 = .ok (.iconst 1, 1) := DL_law_1119.2.2.2.2.2.2.2.2.2.2.2.2.2.2.2.2.2.2.2.2.2.2.2
theorem DL_law_1156 : (decode cL_law 1156 = .ok (.iadd, 1)) ∧ (decode cL_law 1157 = .ok (.iaload, 1)) ∧ (decode cL_law 1158 = .ok (.invokevirtual 172, 3)) ∧ (decode cL_law 1161 = .ok (.pop, 1)) ∧ (decode cL_law 1162 = .ok (.aload_n 2, 1)) ∧ (decode cL_law 1163 = .ok (.aload_n 0, 1)) ∧ (decode cL_law 1164 = .ok (.iload 4, 2)) ∧ (decode cL_law 1166 = .ok (.iconst 1, 1)) ∧ (decode cL_law 1167 = .ok (.iadd, 1)) ∧ (decode cL_law 1168 = .ok (.iaload, 1)) ∧ (decode cL_law 1169 = .ok (.invokevirtual 175, 3)) ∧ (decode cL_law 1172 = .ok (.pop, 1)) ∧ (decode cL_law 1173 = .ok (.goto 53, 3)) ∧ (decode cL_law 1176 = .ok (.aload_n 1, 1)) ∧ (decode cL_law 1177 = .ok (.aload_n 0, 1)) ∧ (decode cL_law 1178 = .ok (.iload 4, 2)) ∧ (decode cL_law 1180 = .ok (.iconst 1, 1)) ∧ (decode cL_law 1181 = .ok (.iadd, 1)) ∧ (decode cL_law 1182 = .ok (.iaload, 1)) ∧ (decode cL_law 1183 = .ok (.invokevirtual 176, 3)) ∧ (decode cL_law 1186 = .ok (.pop, 1)) ∧ (decode cL_law 1187 = .ok (.aload_n 2, 1)) ∧ (decode cL_law 1188 = .ok (.aload_n 0, 1)) ∧ (decode cL_law 1189 = .ok (.iload 4, 2)) := by decide +kernel
theorem dL_law_1156 : decode cL_law 1156 = .ok (.iadd, 1) := DL_law_1156.1
theorem dL_law_1157 : decode cL_law 1157 = .ok (.iaload, 1) := DL_law_1156.2.1
theorem dL_law_1158 : decode cL_law 1158 = .ok (.invokevirtual 172, 3) := DL_law_1156.2.2.1
theorem dL_law_1161 : decode cL_law 1161 = .ok (.pop, 1) := DL_law_1156.2.2.2.1
theorem dL_law_1162 : decode cL_law 1162 = .ok (.aload_n 2, 1) := DL_law_1156.2.2.2.2.1
theorem dL_law_1163 : decode cL_law 1163 = .ok (.aload_n 0, 1) := DL_law_1156.2.2.2.2.2.1
theorem dL_law_1164 : decode cL_law 1164 = .ok (.iload 4, 2) := DL_law_1156.2.2.2.2.2.2.1
theorem dL_law_1166 : decode cL_law 1166 = .ok (.iconst 1, 1) := DL_law_1156.2.2.2.2.2.2.2.1
theorem dL_law_1167 : decode cL_law 1167 = .ok (.iadd, 1) := DL_law_1156.2.2.2.2.2.2.2.2.1
theorem dL_law_1168 : decode cL_law 1168 = .ok (.iaload, 1) := DL_law_1156.2.2.2.2.2.2.2.2.2.1
theorem dL_law_1169 : decode cL_law 1169 = .ok (.invokevirtual 175, 3) := DL_law_1156.2.2.2.2.2.2.2.2.2.2.1
theorem dL_law_1172 : decode cL_law 1172 = .ok (.pop, 1) := DL_law_1156.2.2.2.2.2.2.2.2.2.2.2.1
theorem dL_law_1173 : decode cL_law 1173 = .ok (.goto 53, 3) := DL_law_1156.2.2.2.2.2.2.2.2.2.2.2.2.1
theorem dL_law_1176 : decode cL_law 1176 = .ok (.aload_n 1, 1) := DL_law_1156.2.2.2.2.2.2.2.2.2.2.2.2.2.1
theorem dL_law_1177 : decode cL_law 1177 = .ok (.aload_n 0, 1) := DL_law_1156.2.2.2.2.2.2.2.2.2.2.2.2.2.2.1
theorem dL_law_1178 : decode cL_law 1178 = .ok (.iload 4, 2) := DL_law_1156.2.2.2.2.2.2.2.2.2.2.2.2.2.2.2.1
theorem dL_law_1180 : decode cL_law 1180 = .ok (.iconst 1, 1) := DL_law_1156.2.2.2.2.2.2.2.2.2.2.2.2.2.2.2.2.1
theorem dL_law_1181 : decode cL_law 1181 = .ok (.iadd, 1) := DL_law_1156.2.2.2.2.2.2.2.2.2.2.2.2.2.2.2.2.2.1
theorem dL_law_1182 : decode cL_law 1182 = .ok (.iaload, 1) := DL_law_1156.2.2.2.2.2.2.2.2.2.2.2.2.2.2.2.2.2.2.1
theorem dL_law_1183 : decode cL_law 1183 = .ok (.invokevirtual 176, 3) := DL_law_1156.2.2.2.2.2.2.2.2.2.2.2.2.2.2.2.2.2.2.2.1
theorem dL_law_1186 : decode cL_law 1186 = .ok (.pop, 1) := DL_law_1156.2.2.2.2.2.2.2.2.2.2.2.2.2.2.2.2.2.2.2.2.1
theorem dL_law_1187 : decode cL_law 1187 = .ok (.aload_n 2, 1) := DL_law_1156.2.2.2.2.2.2.2.2.2.2.2.2.2.2.2.2.2.2.2.2.2.1
theorem dL_law_1188 : decode cL_law 1188 = .ok (.aload_n 0, 1) := DL_law_1156.2.2.2.2.2.2.2.2.2.2.2.2.2.2.2.2.2.2.2.2.2.2.1
theorem dL_law_1189 : decode cL_law 1189 = .ok (.iload 4, 2) := DL_law_1156.2.2.2.2.2.2.2.2.2.2.2.2.2.2.2.2.2.2.2.2.2.2.2
theorem DL_law_1191 : (decode cL_law 1191 = .ok (.iconst 1, 1)) ∧ (decode cL_law 1192 = .ok (.iadd, 1)) ∧ (decode cL_law 1193 = .ok (.iaload, 1)) ∧ (decode cL_law 1194 = .ok (.invokevirtual 179, 3)) ∧ (decode cL_law 1197 = .ok (.pop, 1)) ∧ (decode cL_law 1198 = .ok (.goto 28, 3)) ∧ (decode cL_law 1201 = .ok (.aload_n 1, 1)) ∧ (decode cL_law 1202 = .ok (.aload_n 0, 1)) ∧ (decode cL_law 1203 = .ok (.iload 4, 2)) ∧ (decode cL_law 1205 = .ok (.iconst 1, 1)) ∧ (decode cL_law 1206 = .ok (.iadd, 1)) ∧ (decode cL_law 1207 = .ok (.iaload, 1)) ∧ (decode cL_law 1208 = .ok (.invokevirtual 180, 3)) ∧ (decode cL_law 1211 = .ok (.pop, 1)) ∧ (decode cL_law 1212 = .ok (.aload_n 2, 1)) ∧ (decode cL_law 1213 = .ok (.aload_n 0, 1)) ∧ (decode cL_law 1214 = .ok (.iload 4, 2)) ∧ (decode cL_law 1216 = .ok (.iconst 1, 1)) ∧ (decode cL_law 1217 = .ok (.iadd, 1)) ∧ (decode cL_law 1218 = .ok (.iaload, 1)) ∧ (decode cL_law 1219 = .ok (.invokevirtual 183, 3)) ∧ (decode cL_law 1222 = .ok (.pop, 1)) ∧ (decode cL_law 1223 = .ok (.goto 3, 3)) ∧ (decode cL_law 1226 = .ok (.iinc 4 6, 3)) := by decide +kernel
theorem dL_law_1191 : decode cL_law 1191 = .ok (.iconst 1, 1) := DL_law_1191.1
theorem dL_law_1192 : decode cL_law 1192 = .ok (.iadd, 1) := DL_law_1191.2.1
theorem dL_law_1193 : decode cL_law 1193 = .ok (.iaload, 1) := DL_law_1191.2.2.1
theorem dL_law_1194 : decode cL_law 1194 = .ok (.invokevirtual 179, 3) := DL_law_1191.2.2.2.1
theorem dL_law_1197 : decode cL_law 1197 = .ok (.pop, 1) := DL_law_1191.2.2.2.2.1
theorem dL_law_1198 : decode cL_law 1198 = .ok (.goto 28, 3) := DL_law_1191.2.2.2.2.2.1
theorem dL_law_1201 : decode cL_law 1201 = .ok (.aload_n 1, 1) := DL_law_1191.2.2.2.2.2.2.1
theorem dL_law_1202 : decode cL_law 1202 = .ok (.aload_n 0, 1) := DL_law_1191.2.2.2.2.2.2.2.1
theorem dL_law_1203 : decode cL_law 1203 = .ok (.iload 4, 2) := DL_law_1191.2.2.2.2.2.2.2.2.1
theorem dL_law_1205 : decode cL_law 1205 = .ok (.iconst 1, 1) := DL_law_1191.2.2.2.2.2.2.2.2.2.1
theorem dL_law_1206 : decode cL_law 1206 = .ok (.iadd, 1) := DL_law_1191.2.2.2.2.2.2.2.2.2.2.1
theorem dL_law_1207 : decode cL_law 1207 = .ok (.iaload, 1) := DL_law_1191.2.2.2.2.2.2.2.2.2.2.2.1
theorem dL_law_1208 : decode cL_law 1208 = .ok (.invokevirtual 180, 3) := DL_law_1191.2.2.2.2.2.2.2.2.2.2.2.2.1
theorem dL_law_1211 : decode cL_law 1211 = .ok (.pop, 1) := DL_law_1191.2.2.2.2.2.2.2.2.2.2.2.2.2.1
theorem dL_law_1212 : decode cL_law 1212 = .ok (.aload_n 2, 1) := DL_law_1191.2.2.2.2.2.2.2.2.2.2.2.2.2.2.1
theorem dL_law_1213 : decode cL_law 1213 = .ok (.aload_n 0, 1) := DL_law_1191.2.2.2.2.2.2.2.2.2.2.2.2.2.2.2.1
theorem dL_law_1214 : decode cL_law 1214 = .ok (.iload 4, 2) := DL_law_1191.2.2.2.2.2.2.2.2.2.2.2.2.2.2.2.2.1
theorem dL_law_1216 : decode cL_law 1216 = .ok (.iconst 1, 1) := DL_law_1191.2.2.2.2.2.2.2.2.2.2.2.2.2.2.2.2.2.1
theorem dL_law_1217 : decode cL_law 1217 = .ok (.iadd, 1) := DL_law_1191.2.2.2.2.2.2.2.2.2.2.2.2.2.2.2.2.2.2.1
theorem dL_law_1218 : decode cL_law 1218 = .ok (.iaload, 1) := DL_law_1191.2.2.2.2.2.2.2.2.2.2.2.2.2.2.2.2.2.2.2.1
theorem dL_law_1219 : decode cL_law 1219 = .ok (.invokevirtual 183, 3) := DL_law_1191.2.2.2.2.2.2.2.2.2.2.2.2.2.2.2.2.2.2.2.2.1
theorem dL_law_1222 : decode cL_law 1222 = .ok (.pop, 1) := DL_law_1191.2.2.2.2.2.2.2.2.2.2.2.2.2.2.2.2.2.2.2.2.2.1
theorem dL_law_1223 : decode cL_law 1223 = .ok (.goto 3, 3) := DL_law_1191.2.2.2.2.2.2.2.2.2.2.2.2.2.2.2.2.2.2.2.2.2.2.1
theorem dL_law_1226 : decode cL_law 1226 = .ok (.iinc 4 6, 3) := DL_law_1191.2.2.2.2.2.2.2.2.2.2.2.2.2.2.2.2.2.2.2.2.2.2.2
theorem DL_law_1229 : (decode cL_law 1229 = .ok (.goto (-1206), 3)) ∧ (decode cL_law 1232 = .ok (.iconst 1, 1)) ∧ (decode cL_law 1233 = .ok (.ireturn, 1)) := by decide +kernel
theorem dL_law_1229 : decode cL_law 1229 = .ok (.goto (-1206), 3) := DL_law_1229.1
theorem dL_law_1232 : decode cL_law 1232 = .ok (.iconst 1, 1) := DL_law_1229.2.1
theorem dL_law_1233 : decode cL_law 1233 = .ok (.ireturn, 1) := DL_law_1229.2.2
