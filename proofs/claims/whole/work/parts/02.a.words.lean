def BIG : List Cond := lw_tbl.filter goodWord
theorem bg_in {w : Cond} (h : w ∈ lw_tbl) (g : goodWord w = true) : w ∈ BIG := List.mem_filter.mpr ⟨h, g⟩
theorem bg_t {w : Cond} (h : w ∈ tables_1) (g : goodWord w = true) : w ∈ BIG := bg_in (List.mem_append_right _ h) g
theorem tb1 {w : Cond} (i : Nat) (h : tables_1_1[i]? = some w) (g : goodWord w = true) : w ∈ BIG := bg_t (List.mem_append_left _ (List.mem_of_getElem? h)) g
theorem tb2 {w : Cond} (i : Nat) (h : tables_1_2[i]? = some w) (g : goodWord w = true) : w ∈ BIG := bg_t (List.mem_append_right _ (List.mem_append_left _ (List.mem_of_getElem? h))) g
theorem tb3 {w : Cond} (i : Nat) (h : tables_1_3[i]? = some w) (g : goodWord w = true) : w ∈ BIG := bg_t (List.mem_append_right _ (List.mem_append_right _ (List.mem_append_left _ (List.mem_of_getElem? h)))) g
theorem tb4 {w : Cond} (i : Nat) (h : tables_1_4[i]? = some w) (g : goodWord w = true) : w ∈ BIG := bg_t (List.mem_append_right _ (List.mem_append_right _ (List.mem_append_right _ (List.mem_of_getElem? h)))) g
theorem bg_sel {y : MethodName} (n : Nat) (i : Nat) (h : lw_privs[i]? = some (y, n)) : Cond.selects y.cls y y ∈ BIG := bg_in (List.mem_append_left _ (List.mem_map.mpr ⟨(y, n), List.mem_of_getElem? h, rfl⟩)) rfl
theorem bg_good {c c' : Cond} (h : c' ∈ BIG) : GoodIn (c :: BIG) (c' :: BIG) := by
  have g : ∀ w ∈ BIG, (w.onTables && w.keeps) = true ∨ ∃ ty, w = .arrayClass ty := fun w h => good_of_word (List.mem_filter.mp h).2
  intro w hw
  rcases List.mem_cons.mp hw with e | e
  · exact ⟨List.mem_cons_of_mem _ (e ▸ h), e ▸ g c' h⟩
  · exact ⟨List.mem_cons_of_mem _ e, g w e⟩
theorem wd_1_0 : (Jvm.Cond.initialized "PageHoldLaw") ∈ BIG := tb1 0 rfl rfl
theorem wd_1_1 : (Jvm.Cond.initialized "PageHold") ∈ BIG := tb1 1 rfl rfl
theorem wd_1_2 : (Jvm.Cond.initialized "PageHold$Words") ∈ BIG := tb1 2 rfl rfl
theorem wd_1_3 : (Jvm.Cond.initialized "java/lang/Math") ∈ BIG := tb1 3 rfl rfl
theorem wd_1_4 : (Jvm.Cond.initialized "PageHold$Disk") ∈ BIG := tb1 4 rfl rfl
theorem wd_1_5 : (Jvm.Cond.initialized "PageHold$Files") ∈ BIG := tb1 5 rfl rfl
theorem wd_1_6 : (Jvm.Cond.initialized "java/util/Arrays") ∈ BIG := tb1 6 rfl rfl
theorem wd_1_7 : (Jvm.Cond.initialized "PageHold$Frames") ∈ BIG := tb1 7 rfl rfl
theorem wd_1_8 : (Jvm.Cond.initialized "PageHold$Order") ∈ BIG := tb1 8 rfl rfl
theorem wd_1_9 : (Jvm.Cond.initialized "PageHold$Shadows") ∈ BIG := tb1 9 rfl rfl
theorem wd_1_10 : (Jvm.Cond.initialized "PageHoldModel") ∈ BIG := tb1 10 rfl rfl
theorem wd_1_11 : (Jvm.Cond.initialized "java/lang/System") ∈ BIG := tb1 11 rfl rfl
theorem wd_1_12 : (Jvm.Cond.classLink "PageHoldLaw" (7 : Nat) "PageHold") ∈ BIG := tb1 12 rfl rfl
theorem wd_1_13 : (Jvm.Cond.instantiable "PageHold" (9 : Nat)) ∈ BIG := tb1 13 rfl rfl
theorem wd_1_14 : (Jvm.Cond.methodLink "PageHoldLaw" (15 : Nat) ({ cls := "PageHold", name := "<init>", desc := "(II)V" } : Jvm.MethodName)) ∈ BIG := tb1 14 rfl rfl
theorem wd_1_15 : (Jvm.Cond.instanceMethod ({ cls := "PageHold", name := "<init>", desc := "(II)V" } : Jvm.MethodName)) ∈ BIG := tb1 15 rfl rfl
theorem wd_1_16 : (Jvm.Cond.code ({ cls := "PageHold", name := "<init>", desc := "(II)V" } : Jvm.MethodName) prog_1_method_1_code (5 : Nat) (Option.none : Option Jvm.ClassFile.FieldType)) ∈ BIG := tb1 16 rfl rfl
theorem wd_1_17 : (Jvm.Cond.methodLink "PageHold" (3 : Nat) ({ cls := "java/lang/Object", name := "<init>", desc := "()V" } : Jvm.MethodName)) ∈ BIG := tb1 17 rfl rfl
theorem wd_1_18 : (Jvm.Cond.instanceMethod ({ cls := "java/lang/Object", name := "<init>", desc := "()V" } : Jvm.MethodName)) ∈ BIG := tb1 18 rfl rfl
theorem wd_1_19 : (Jvm.Cond.code ({ cls := "java/lang/Object", name := "<init>", desc := "()V" } : Jvm.MethodName) object_method_1_code (1 : Nat) (Option.none : Option Jvm.ClassFile.FieldType)) ∈ BIG := tb1 19 rfl rfl
theorem wd_1_20 : (Jvm.Cond.classLink "PageHold" (13 : Nat) "PageHold$Words") ∈ BIG := tb1 20 rfl rfl
theorem wd_1_21 : (Jvm.Cond.instantiable "PageHold$Words" (1 : Nat)) ∈ BIG := tb1 21 rfl rfl
theorem wd_1_22 : (Jvm.Cond.methodLink "PageHold" (15 : Nat) ({ cls := "PageHold$Words", name := "<init>", desc := "(I)V" } : Jvm.MethodName)) ∈ BIG := tb1 22 rfl rfl
theorem wd_1_23 : (Jvm.Cond.instanceMethod ({ cls := "PageHold$Words", name := "<init>", desc := "(I)V" } : Jvm.MethodName)) ∈ BIG := tb1 23 rfl rfl
theorem wd_1_24 : (Jvm.Cond.code ({ cls := "PageHold$Words", name := "<init>", desc := "(I)V" } : Jvm.MethodName) prog_7_method_1_code (2 : Nat) (Option.none : Option Jvm.ClassFile.FieldType)) ∈ BIG := tb1 24 rfl rfl
theorem wd_1_25 : (Jvm.Cond.methodLink "PageHold$Words" (3 : Nat) ({ cls := "java/lang/Object", name := "<init>", desc := "()V" } : Jvm.MethodName)) ∈ BIG := tb1 25 rfl rfl
theorem wd_1_26 : (Jvm.Cond.methodLink "PageHold$Words" (9 : Nat) ({ cls := "java/lang/Math", name := "max", desc := "(II)I" } : Jvm.MethodName)) ∈ BIG := tb1 26 rfl rfl
theorem wd_1_27 : (Jvm.Cond.static ({ cls := "java/lang/Math", name := "max", desc := "(II)I" } : Jvm.MethodName)) ∈ BIG := tb1 27 rfl rfl
theorem wd_1_28 : (Jvm.Cond.code ({ cls := "java/lang/Math", name := "max", desc := "(II)I" } : Jvm.MethodName) prog_10_method_65_code (2 : Nat) (Option.some Jvm.ClassFile.FieldType.int)) ∈ BIG := tb1 28 rfl rfl
theorem wd_1_29 : (Jvm.Cond.fieldLink "PageHold$Words" (15 : Nat) "PageHold$Words" "row" "[J") ∈ BIG := tb1 29 rfl rfl
theorem wd_1_33 : (Jvm.Cond.arrayClass Jvm.ClassFile.FieldType.int) ∈ BIG := tb1 33 rfl rfl
theorem wd_1_34 : (Jvm.Cond.arrayClass Jvm.ClassFile.FieldType.long) ∈ BIG := tb1 34 rfl rfl
theorem wd_1_35 : (Jvm.Cond.classLink "PageHold" (32 : Nat) "PageHold$Disk") ∈ BIG := tb1 35 rfl rfl
theorem wd_1_36 : (Jvm.Cond.instantiable "PageHold$Disk" (11 : Nat)) ∈ BIG := tb1 36 rfl rfl
theorem wd_1_37 : (Jvm.Cond.methodLink "PageHold" (34 : Nat) ({ cls := "PageHold$Disk", name := "<init>", desc := "(I)V" } : Jvm.MethodName)) ∈ BIG := tb1 37 rfl rfl
theorem wd_1_38 : (Jvm.Cond.instanceMethod ({ cls := "PageHold$Disk", name := "<init>", desc := "(I)V" } : Jvm.MethodName)) ∈ BIG := tb1 38 rfl rfl
theorem wd_1_39 : (Jvm.Cond.code ({ cls := "PageHold$Disk", name := "<init>", desc := "(I)V" } : Jvm.MethodName) prog_2_method_1_code (2 : Nat) (Option.none : Option Jvm.ClassFile.FieldType)) ∈ BIG := tb1 39 rfl rfl
theorem wd_1_40 : (Jvm.Cond.methodLink "PageHold$Disk" (3 : Nat) ({ cls := "java/lang/Object", name := "<init>", desc := "()V" } : Jvm.MethodName)) ∈ BIG := tb1 40 rfl rfl
theorem wd_1_41 : (Jvm.Cond.classLink "PageHold$Disk" (35 : Nat) "PageHold$Words") ∈ BIG := tb1 41 rfl rfl
theorem wd_1_42 : (Jvm.Cond.methodLink "PageHold$Disk" (37 : Nat) ({ cls := "PageHold$Words", name := "<init>", desc := "(I)V" } : Jvm.MethodName)) ∈ BIG := tb1 42 rfl rfl
theorem wd_1_43 : (Jvm.Cond.methodLink "PageHold$Disk" (44 : Nat) ({ cls := "java/lang/Math", name := "max", desc := "(II)I" } : Jvm.MethodName)) ∈ BIG := tb1 43 rfl rfl
theorem wd_1_44 : (Jvm.Cond.fieldLink "PageHold$Disk" (40 : Nat) "PageHold$Disk" "bytes" "LPageHold$Words;") ∈ BIG := tb1 44 rfl rfl
theorem wd_1_46 : (Jvm.Cond.fieldLink "PageHold$Disk" (50 : Nat) "PageHold$Disk" "fails" "[Z") ∈ BIG := tb1 46 rfl rfl
theorem wd_1_48 : (Jvm.Cond.fieldLink "PageHold$Disk" (54 : Nat) "PageHold$Disk" "taken" "[Z") ∈ BIG := tb1 48 rfl rfl
theorem wd_1_49 : (Jvm.Cond.fieldLink "PageHold$Disk" (57 : Nat) "PageHold$Disk" "free" "I") ∈ BIG := tb1 49 rfl rfl
theorem wd_1_51 : (Jvm.Cond.fieldLink "PageHold$Disk" (9 : Nat) "PageHold$Disk" "reads" "I") ∈ BIG := tb1 51 rfl rfl
theorem wd_1_53 : (Jvm.Cond.fieldLink "PageHold$Disk" (15 : Nat) "PageHold$Disk" "writes" "I") ∈ BIG := tb1 53 rfl rfl
theorem wd_1_55 : (Jvm.Cond.fieldLink "PageHold$Disk" (18 : Nat) "PageHold$Disk" "kinds" "[I") ∈ BIG := tb1 55 rfl rfl
theorem wd_1_57 : (Jvm.Cond.fieldLink "PageHold$Disk" (22 : Nat) "PageHold$Disk" "firsts" "[I") ∈ BIG := tb1 57 rfl rfl
theorem wd_1_59 : (Jvm.Cond.fieldLink "PageHold$Disk" (25 : Nat) "PageHold$Disk" "lengths" "[I") ∈ BIG := tb1 59 rfl rfl
theorem wd_1_61 : (Jvm.Cond.fieldLink "PageHold$Disk" (28 : Nat) "PageHold$Disk" "runs" "I") ∈ BIG := tb1 61 rfl rfl
theorem wd_1_63 : (Jvm.Cond.fieldLink "PageHold$Disk" (31 : Nat) "PageHold$Disk" "recordIsOld" "Z") ∈ BIG := tb1 63 rfl rfl
theorem wd_1_87 : (Jvm.Cond.arrayClass Jvm.ClassFile.FieldType.boolean) ∈ BIG := tb1 87 rfl rfl
theorem wd_1_88 : (Jvm.Cond.classLink "PageHold" (39 : Nat) "PageHold$Files") ∈ BIG := tb1 88 rfl rfl
theorem wd_1_89 : (Jvm.Cond.instantiable "PageHold$Files" (4 : Nat)) ∈ BIG := tb1 89 rfl rfl
theorem wd_1_90 : (Jvm.Cond.methodLink "PageHold" (41 : Nat) ({ cls := "PageHold$Files", name := "<init>", desc := "()V" } : Jvm.MethodName)) ∈ BIG := tb1 90 rfl rfl
theorem wd_1_91 : (Jvm.Cond.instanceMethod ({ cls := "PageHold$Files", name := "<init>", desc := "()V" } : Jvm.MethodName)) ∈ BIG := tb1 91 rfl rfl
theorem wd_1_92 : (Jvm.Cond.code ({ cls := "PageHold$Files", name := "<init>", desc := "()V" } : Jvm.MethodName) prog_3_method_1_code (1 : Nat) (Option.none : Option Jvm.ClassFile.FieldType)) ∈ BIG := tb1 92 rfl rfl
theorem wd_1_93 : (Jvm.Cond.methodLink "PageHold$Files" (3 : Nat) ({ cls := "java/lang/Object", name := "<init>", desc := "()V" } : Jvm.MethodName)) ∈ BIG := tb1 93 rfl rfl
theorem wd_1_94 : (Jvm.Cond.methodLink "PageHold$Files" (24 : Nat) ({ cls := "java/util/Arrays", name := "fill", desc := "([II)V" } : Jvm.MethodName)) ∈ BIG := tb1 94 rfl rfl
theorem wd_1_95 : (Jvm.Cond.static ({ cls := "java/util/Arrays", name := "fill", desc := "([II)V" } : Jvm.MethodName)) ∈ BIG := tb1 95 rfl rfl
theorem wd_1_96 : (Jvm.Cond.code ({ cls := "java/util/Arrays", name := "fill", desc := "([II)V" } : Jvm.MethodName) prog_12_method_103_code (4 : Nat) (Option.none : Option Jvm.ClassFile.FieldType)) ∈ BIG := tb1 96 rfl rfl
theorem wd_1_97 : (Jvm.Cond.fieldLink "PageHold$Files" (9 : Nat) "PageHold$Files" "sizes" "[I") ∈ BIG := tb1 97 rfl rfl
theorem wd_1_99 : (Jvm.Cond.fieldLink "PageHold$Files" (15 : Nat) "PageHold$Files" "windows" "[I") ∈ BIG := tb1 99 rfl rfl
theorem wd_1_101 : (Jvm.Cond.fieldLink "PageHold$Files" (18 : Nat) "PageHold$Files" "goOn" "[I") ∈ BIG := tb1 101 rfl rfl
theorem wd_1_103 : (Jvm.Cond.fieldLink "PageHold$Files" (21 : Nat) "PageHold$Files" "errors" "[I") ∈ BIG := tb1 103 rfl rfl
theorem wd_1_114 : (Jvm.Cond.classLink "PageHold" (46 : Nat) "PageHold$Frames") ∈ BIG := tb1 114 rfl rfl
theorem wd_1_115 : (Jvm.Cond.instantiable "PageHold$Frames" (12 : Nat)) ∈ BIG := tb1 115 rfl rfl
theorem wd_1_116 : (Jvm.Cond.methodLink "PageHold" (48 : Nat) ({ cls := "PageHold$Frames", name := "<init>", desc := "(I)V" } : Jvm.MethodName)) ∈ BIG := tb1 116 rfl rfl
theorem wd_1_117 : (Jvm.Cond.instanceMethod ({ cls := "PageHold$Frames", name := "<init>", desc := "(I)V" } : Jvm.MethodName)) ∈ BIG := tb1 117 rfl rfl
theorem wd_1_118 : (Jvm.Cond.code ({ cls := "PageHold$Frames", name := "<init>", desc := "(I)V" } : Jvm.MethodName) prog_4_method_1_code (2 : Nat) (Option.none : Option Jvm.ClassFile.FieldType)) ∈ BIG := tb1 118 rfl rfl
theorem wd_1_119 : (Jvm.Cond.methodLink "PageHold$Frames" (3 : Nat) ({ cls := "java/lang/Object", name := "<init>", desc := "()V" } : Jvm.MethodName)) ∈ BIG := tb1 119 rfl rfl
theorem wd_1_120 : (Jvm.Cond.methodLink "PageHold$Frames" (22 : Nat) ({ cls := "java/lang/Math", name := "max", desc := "(II)I" } : Jvm.MethodName)) ∈ BIG := tb1 120 rfl rfl
theorem wd_1_121 : (Jvm.Cond.classLink "PageHold$Frames" (31 : Nat) "PageHold$Words") ∈ BIG := tb1 121 rfl rfl
theorem wd_1_122 : (Jvm.Cond.methodLink "PageHold$Frames" (33 : Nat) ({ cls := "PageHold$Words", name := "<init>", desc := "(I)V" } : Jvm.MethodName)) ∈ BIG := tb1 122 rfl rfl
theorem wd_1_123 : (Jvm.Cond.classLink "PageHold$Frames" (56 : Nat) "PageHold$Order") ∈ BIG := tb1 123 rfl rfl
theorem wd_1_124 : (Jvm.Cond.instantiable "PageHold$Order" (2 : Nat)) ∈ BIG := tb1 124 rfl rfl
theorem wd_1_125 : (Jvm.Cond.methodLink "PageHold$Frames" (58 : Nat) ({ cls := "PageHold$Order", name := "<init>", desc := "(I)V" } : Jvm.MethodName)) ∈ BIG := tb1 125 rfl rfl
theorem wd_1_126 : (Jvm.Cond.instanceMethod ({ cls := "PageHold$Order", name := "<init>", desc := "(I)V" } : Jvm.MethodName)) ∈ BIG := tb1 126 rfl rfl
theorem wd_1_127 : (Jvm.Cond.code ({ cls := "PageHold$Order", name := "<init>", desc := "(I)V" } : Jvm.MethodName) prog_5_method_1_code (2 : Nat) (Option.none : Option Jvm.ClassFile.FieldType)) ∈ BIG := tb1 127 rfl rfl
theorem wd_1_128 : (Jvm.Cond.methodLink "PageHold$Order" (3 : Nat) ({ cls := "java/lang/Object", name := "<init>", desc := "()V" } : Jvm.MethodName)) ∈ BIG := tb1 128 rfl rfl
theorem wd_1_129 : (Jvm.Cond.methodLink "PageHold$Order" (15 : Nat) ({ cls := "java/lang/Math", name := "max", desc := "(II)I" } : Jvm.MethodName)) ∈ BIG := tb1 129 rfl rfl
theorem wd_1_130 : (Jvm.Cond.fieldLink "PageHold$Order" (21 : Nat) "PageHold$Order" "row" "[I") ∈ BIG := tb1 130 rfl rfl
theorem wd_1_131 : (Jvm.Cond.fieldLink "PageHold$Order" (9 : Nat) "PageHold$Order" "count" "I") ∈ BIG := tb1 131 rfl rfl
theorem wd_1_139 : (Jvm.Cond.methodLink "PageHold$Frames" (66 : Nat) ({ cls := "java/util/Arrays", name := "fill", desc := "([II)V" } : Jvm.MethodName)) ∈ BIG := tb1 139 rfl rfl
theorem wd_1_140 : (Jvm.Cond.fieldLink "PageHold$Frames" (28 : Nat) "PageHold$Frames" "most" "I") ∈ BIG := tb1 140 rfl rfl
theorem wd_1_142 : (Jvm.Cond.fieldLink "PageHold$Frames" (36 : Nat) "PageHold$Frames" "bytes" "LPageHold$Words;") ∈ BIG := tb1 142 rfl rfl
theorem wd_1_144 : (Jvm.Cond.fieldLink "PageHold$Frames" (40 : Nat) "PageHold$Frames" "spots" "[I") ∈ BIG := tb1 144 rfl rfl
theorem wd_1_146 : (Jvm.Cond.fieldLink "PageHold$Frames" (43 : Nat) "PageHold$Frames" "since" "[I") ∈ BIG := tb1 146 rfl rfl
theorem wd_1_148 : (Jvm.Cond.fieldLink "PageHold$Frames" (46 : Nat) "PageHold$Frames" "referenced" "[Z") ∈ BIG := tb1 148 rfl rfl
theorem wd_1_150 : (Jvm.Cond.fieldLink "PageHold$Frames" (50 : Nat) "PageHold$Frames" "pinned" "[Z") ∈ BIG := tb1 150 rfl rfl
theorem wd_1_152 : (Jvm.Cond.fieldLink "PageHold$Frames" (53 : Nat) "PageHold$Frames" "onActive" "[Z") ∈ BIG := tb1 152 rfl rfl
theorem wd_1_154 : (Jvm.Cond.fieldLink "PageHold$Frames" (9 : Nat) "PageHold$Frames" "frameBySpot" "[I") ∈ BIG := tb1 154 rfl rfl
theorem wd_1_155 : (Jvm.Cond.fieldLink "PageHold$Frames" (59 : Nat) "PageHold$Frames" "active" "LPageHold$Order;") ∈ BIG := tb1 155 rfl rfl
theorem wd_1_157 : (Jvm.Cond.fieldLink "PageHold$Frames" (63 : Nat) "PageHold$Frames" "inactive" "LPageHold$Order;") ∈ BIG := tb1 157 rfl rfl
theorem wd_1_159 : (Jvm.Cond.fieldLink "PageHold$Frames" (15 : Nat) "PageHold$Frames" "dirtyCount" "I") ∈ BIG := tb1 159 rfl rfl
theorem wd_1_161 : (Jvm.Cond.fieldLink "PageHold$Frames" (19 : Nat) "PageHold$Frames" "pinnedCount" "I") ∈ BIG := tb1 161 rfl rfl
theorem wd_1_188 : (Jvm.Cond.classLink "PageHold" (53 : Nat) "PageHold$Shadows") ∈ BIG := tb1 188 rfl rfl
theorem wd_1_189 : (Jvm.Cond.instantiable "PageHold$Shadows" (4 : Nat)) ∈ BIG := tb1 189 rfl rfl
theorem wd_1_190 : (Jvm.Cond.methodLink "PageHold" (55 : Nat) ({ cls := "PageHold$Shadows", name := "<init>", desc := "(I)V" } : Jvm.MethodName)) ∈ BIG := tb1 190 rfl rfl
theorem wd_1_191 : (Jvm.Cond.instanceMethod ({ cls := "PageHold$Shadows", name := "<init>", desc := "(I)V" } : Jvm.MethodName)) ∈ BIG := tb1 191 rfl rfl
theorem wd_1_192 : (Jvm.Cond.code ({ cls := "PageHold$Shadows", name := "<init>", desc := "(I)V" } : Jvm.MethodName) prog_6_method_1_code (2 : Nat) (Option.none : Option Jvm.ClassFile.FieldType)) ∈ BIG := tb1 192 rfl rfl
theorem wd_1_193 : (Jvm.Cond.methodLink "PageHold$Shadows" (3 : Nat) ({ cls := "java/lang/Object", name := "<init>", desc := "()V" } : Jvm.MethodName)) ∈ BIG := tb1 193 rfl rfl
theorem wd_1_194 : (Jvm.Cond.methodLink "PageHold$Shadows" (22 : Nat) ({ cls := "java/lang/Math", name := "max", desc := "(II)I" } : Jvm.MethodName)) ∈ BIG := tb1 194 rfl rfl
theorem wd_1_195 : (Jvm.Cond.methodLink "PageHold$Shadows" (31 : Nat) ({ cls := "java/util/Arrays", name := "fill", desc := "([II)V" } : Jvm.MethodName)) ∈ BIG := tb1 195 rfl rfl
theorem wd_1_196 : (Jvm.Cond.fieldLink "PageHold$Shadows" (9 : Nat) "PageHold$Shadows" "numberOf" "[I") ∈ BIG := tb1 196 rfl rfl
theorem wd_1_197 : (Jvm.Cond.fieldLink "PageHold$Shadows" (28 : Nat) "PageHold$Shadows" "row" "[I") ∈ BIG := tb1 197 rfl rfl
theorem wd_1_198 : (Jvm.Cond.fieldLink "PageHold$Shadows" (15 : Nat) "PageHold$Shadows" "count" "I") ∈ BIG := tb1 198 rfl rfl
theorem wd_1_200 : (Jvm.Cond.fieldLink "PageHold$Shadows" (19 : Nat) "PageHold$Shadows" "evicted" "I") ∈ BIG := tb1 200 rfl rfl
theorem wd_1_211 : (Jvm.Cond.methodLink "PageHold" (60 : Nat) ({ cls := "java/util/Arrays", name := "fill", desc := "([II)V" } : Jvm.MethodName)) ∈ BIG := tb1 211 rfl rfl
theorem wd_1_212 : (Jvm.Cond.fieldLink "PageHold" (35 : Nat) "PageHold" "store" "LPageHold$Disk;") ∈ BIG := tb1 212 rfl rfl
theorem wd_1_213 : (Jvm.Cond.fieldLink "PageHold" (42 : Nat) "PageHold" "files" "LPageHold$Files;") ∈ BIG := tb1 213 rfl rfl
theorem wd_1_214 : (Jvm.Cond.fieldLink "PageHold" (49 : Nat) "PageHold" "frames" "LPageHold$Frames;") ∈ BIG := tb1 214 rfl rfl
theorem wd_1_215 : (Jvm.Cond.fieldLink "PageHold" (56 : Nat) "PageHold" "shadows" "LPageHold$Shadows;") ∈ BIG := tb1 215 rfl rfl
theorem wd_1_216 : (Jvm.Cond.fieldLink "PageHold" (9 : Nat) "PageHold" "blockOf" "[I") ∈ BIG := tb1 216 rfl rfl
theorem wd_1_217 : (Jvm.Cond.fieldLink "PageHold" (18 : Nat) "PageHold" "inHand" "LPageHold$Words;") ∈ BIG := tb1 217 rfl rfl
theorem wd_1_218 : (Jvm.Cond.fieldLink "PageHold" (22 : Nat) "PageHold" "toWrite" "LPageHold$Words;") ∈ BIG := tb1 218 rfl rfl
theorem wd_1_219 : (Jvm.Cond.fieldLink "PageHold" (25 : Nat) "PageHold" "handCount" "I") ∈ BIG := tb1 219 rfl rfl
theorem wd_1_220 : (Jvm.Cond.fieldLink "PageHold" (29 : Nat) "PageHold" "now" "I") ∈ BIG := tb1 220 rfl rfl
theorem wd_2_0 : (Jvm.Cond.methodLink "PageHoldLaw" (21 : Nat) ({ cls := "PageHold", name := "read", desc := "(III)I" } : Jvm.MethodName)) ∈ BIG := tb2 0 rfl rfl
theorem wd_2_1 : (Jvm.Cond.instanceMethod ({ cls := "PageHold", name := "read", desc := "(III)I" } : Jvm.MethodName)) ∈ BIG := tb2 1 rfl rfl
theorem wd_2_2 : (Jvm.Cond.selects "PageHold" ({ cls := "PageHold", name := "read", desc := "(III)I" } : Jvm.MethodName) ({ cls := "PageHold", name := "read", desc := "(III)I" } : Jvm.MethodName)) ∈ BIG := tb2 2 rfl rfl
theorem wd_2_3 : (Jvm.Cond.code ({ cls := "PageHold", name := "read", desc := "(III)I" } : Jvm.MethodName) prog_1_method_2_code (9 : Nat) (Option.some Jvm.ClassFile.FieldType.int)) ∈ BIG := tb2 3 rfl rfl
theorem wd_2_4 : (Jvm.Cond.methodLink "PageHold" (66 : Nat) ({ cls := "PageHold", name := "isFile", desc := "(I)Z" } : Jvm.MethodName)) ∈ BIG := tb2 4 rfl rfl
theorem wd_2_5 : (Jvm.Cond.static ({ cls := "PageHold", name := "isFile", desc := "(I)Z" } : Jvm.MethodName)) ∈ BIG := tb2 5 rfl rfl
theorem wd_2_6 : (Jvm.Cond.code ({ cls := "PageHold", name := "isFile", desc := "(I)Z" } : Jvm.MethodName) prog_1_method_23_code (1 : Nat) (Option.some Jvm.ClassFile.FieldType.boolean)) ∈ BIG := tb2 6 rfl rfl
theorem wd_2_7 : (Jvm.Cond.methodLink "PageHold" (70 : Nat) ({ cls := "PageHold$Disk", name := "begin", desc := "()V" } : Jvm.MethodName)) ∈ BIG := tb2 7 rfl rfl
theorem wd_2_8 : (Jvm.Cond.instanceMethod ({ cls := "PageHold$Disk", name := "begin", desc := "()V" } : Jvm.MethodName)) ∈ BIG := tb2 8 rfl rfl
theorem wd_2_9 : (Jvm.Cond.selects "PageHold$Disk" ({ cls := "PageHold$Disk", name := "begin", desc := "()V" } : Jvm.MethodName) ({ cls := "PageHold$Disk", name := "begin", desc := "()V" } : Jvm.MethodName)) ∈ BIG := tb2 9 rfl rfl
theorem wd_2_10 : (Jvm.Cond.code ({ cls := "PageHold$Disk", name := "begin", desc := "()V" } : Jvm.MethodName) prog_2_method_2_code (1 : Nat) (Option.none : Option Jvm.ClassFile.FieldType)) ∈ BIG := tb2 10 rfl rfl
theorem wd_2_11 : (Jvm.Cond.methodLink "PageHold" (76 : Nat) ({ cls := "java/lang/Math", name := "min", desc := "(II)I" } : Jvm.MethodName)) ∈ BIG := tb2 11 rfl rfl
theorem wd_2_12 : (Jvm.Cond.static ({ cls := "java/lang/Math", name := "min", desc := "(II)I" } : Jvm.MethodName)) ∈ BIG := tb2 12 rfl rfl
theorem wd_2_13 : (Jvm.Cond.code ({ cls := "java/lang/Math", name := "min", desc := "(II)I" } : Jvm.MethodName) prog_10_method_69_code (2 : Nat) (Option.some Jvm.ClassFile.FieldType.int)) ∈ BIG := tb2 13 rfl rfl
theorem wd_2_14 : (Jvm.Cond.methodLink "PageHold" (82 : Nat) ({ cls := "PageHold", name := "readPage", desc := "(IIII)I" } : Jvm.MethodName)) ∈ BIG := tb2 14 rfl rfl
theorem wd_2_16 : (Jvm.Cond.instanceMethod ({ cls := "PageHold", name := "readPage", desc := "(IIII)I" } : Jvm.MethodName)) ∈ BIG := tb2 16 rfl rfl
theorem wd_2_17 : (Jvm.Cond.code ({ cls := "PageHold", name := "readPage", desc := "(IIII)I" } : Jvm.MethodName) prog_1_method_28_code (11 : Nat) (Option.some Jvm.ClassFile.FieldType.int)) ∈ BIG := tb2 17 rfl rfl
theorem wd_2_18 : (Jvm.Cond.methodLink "PageHold" (105 : Nat) ({ cls := "PageHold", name := "spotOf", desc := "(II)I" } : Jvm.MethodName)) ∈ BIG := tb2 18 rfl rfl
theorem wd_2_19 : (Jvm.Cond.static ({ cls := "PageHold", name := "spotOf", desc := "(II)I" } : Jvm.MethodName)) ∈ BIG := tb2 19 rfl rfl
theorem wd_2_20 : (Jvm.Cond.code ({ cls := "PageHold", name := "spotOf", desc := "(II)I" } : Jvm.MethodName) prog_1_method_26_code (2 : Nat) (Option.some Jvm.ClassFile.FieldType.int)) ∈ BIG := tb2 20 rfl rfl
theorem wd_2_21 : (Jvm.Cond.methodLink "PageHold" (118 : Nat) ({ cls := "PageHold$Frames", name := "frameOf", desc := "(I)I" } : Jvm.MethodName)) ∈ BIG := tb2 21 rfl rfl
theorem wd_2_22 : (Jvm.Cond.instanceMethod ({ cls := "PageHold$Frames", name := "frameOf", desc := "(I)I" } : Jvm.MethodName)) ∈ BIG := tb2 22 rfl rfl
theorem wd_2_23 : (Jvm.Cond.selects "PageHold$Frames" ({ cls := "PageHold$Frames", name := "frameOf", desc := "(I)I" } : Jvm.MethodName) ({ cls := "PageHold$Frames", name := "frameOf", desc := "(I)I" } : Jvm.MethodName)) ∈ BIG := tb2 23 rfl rfl
theorem wd_2_24 : (Jvm.Cond.code ({ cls := "PageHold$Frames", name := "frameOf", desc := "(I)I" } : Jvm.MethodName) prog_4_method_2_code (2 : Nat) (Option.some Jvm.ClassFile.FieldType.int)) ∈ BIG := tb2 24 rfl rfl
theorem wd_2_25 : (Jvm.Cond.methodLink "PageHold" (178 : Nat) ({ cls := "PageHold", name := "touch", desc := "(I)I" } : Jvm.MethodName)) ∈ BIG := tb2 25 rfl rfl
theorem wd_2_27 : (Jvm.Cond.instanceMethod ({ cls := "PageHold", name := "touch", desc := "(I)I" } : Jvm.MethodName)) ∈ BIG := tb2 27 rfl rfl
theorem wd_2_28 : (Jvm.Cond.code ({ cls := "PageHold", name := "touch", desc := "(I)I" } : Jvm.MethodName) prog_1_method_33_code (3 : Nat) (Option.some Jvm.ClassFile.FieldType.int)) ∈ BIG := tb2 28 rfl rfl
theorem wd_2_29 : (Jvm.Cond.methodLink "PageHold" (270 : Nat) ({ cls := "PageHold", name := "bringIn", desc := "(I)I" } : Jvm.MethodName)) ∈ BIG := tb2 29 rfl rfl
theorem wd_2_31 : (Jvm.Cond.instanceMethod ({ cls := "PageHold", name := "bringIn", desc := "(I)I" } : Jvm.MethodName)) ∈ BIG := tb2 31 rfl rfl
theorem wd_2_32 : (Jvm.Cond.code ({ cls := "PageHold", name := "bringIn", desc := "(I)I" } : Jvm.MethodName) prog_1_method_34_code (4 : Nat) (Option.some Jvm.ClassFile.FieldType.int)) ∈ BIG := tb2 32 rfl rfl
theorem wd_2_33 : (Jvm.Cond.methodLink "PageHold" (291 : Nat) ({ cls := "PageHold$Frames", name := "leastFree", desc := "()I" } : Jvm.MethodName)) ∈ BIG := tb2 33 rfl rfl
theorem wd_2_34 : (Jvm.Cond.instanceMethod ({ cls := "PageHold$Frames", name := "leastFree", desc := "()I" } : Jvm.MethodName)) ∈ BIG := tb2 34 rfl rfl
theorem wd_2_35 : (Jvm.Cond.selects "PageHold$Frames" ({ cls := "PageHold$Frames", name := "leastFree", desc := "()I" } : Jvm.MethodName) ({ cls := "PageHold$Frames", name := "leastFree", desc := "()I" } : Jvm.MethodName)) ∈ BIG := tb2 35 rfl rfl
theorem wd_2_36 : (Jvm.Cond.code ({ cls := "PageHold$Frames", name := "leastFree", desc := "()I" } : Jvm.MethodName) prog_4_method_4_code (2 : Nat) (Option.some Jvm.ClassFile.FieldType.int)) ∈ BIG := tb2 36 rfl rfl
theorem wd_2_37 : (Jvm.Cond.methodLink "PageHold" (294 : Nat) ({ cls := "PageHold$Frames", name := "balance", desc := "()V" } : Jvm.MethodName)) ∈ BIG := tb2 37 rfl rfl
theorem wd_2_38 : (Jvm.Cond.instanceMethod ({ cls := "PageHold$Frames", name := "balance", desc := "()V" } : Jvm.MethodName)) ∈ BIG := tb2 38 rfl rfl
theorem wd_2_39 : (Jvm.Cond.selects "PageHold$Frames" ({ cls := "PageHold$Frames", name := "balance", desc := "()V" } : Jvm.MethodName) ({ cls := "PageHold$Frames", name := "balance", desc := "()V" } : Jvm.MethodName)) ∈ BIG := tb2 39 rfl rfl
theorem wd_2_40 : (Jvm.Cond.code ({ cls := "PageHold$Frames", name := "balance", desc := "()V" } : Jvm.MethodName) prog_4_method_9_code (3 : Nat) (Option.none : Option Jvm.ClassFile.FieldType)) ∈ BIG := tb2 40 rfl rfl
theorem wd_2_41 : (Jvm.Cond.methodLink "PageHold$Frames" (95 : Nat) ({ cls := "PageHold$Order", name := "last", desc := "()I" } : Jvm.MethodName)) ∈ BIG := tb2 41 rfl rfl
theorem wd_2_42 : (Jvm.Cond.instanceMethod ({ cls := "PageHold$Order", name := "last", desc := "()I" } : Jvm.MethodName)) ∈ BIG := tb2 42 rfl rfl
theorem wd_2_43 : (Jvm.Cond.selects "PageHold$Order" ({ cls := "PageHold$Order", name := "last", desc := "()I" } : Jvm.MethodName) ({ cls := "PageHold$Order", name := "last", desc := "()I" } : Jvm.MethodName)) ∈ BIG := tb2 43 rfl rfl
theorem wd_2_44 : (Jvm.Cond.code ({ cls := "PageHold$Order", name := "last", desc := "()I" } : Jvm.MethodName) prog_5_method_3_code (1 : Nat) (Option.some Jvm.ClassFile.FieldType.int)) ∈ BIG := tb2 44 rfl rfl
theorem wd_2_45 : (Jvm.Cond.methodLink "PageHold$Order" (25 : Nat) ({ cls := "PageHold$Order", name := "at", desc := "(I)I" } : Jvm.MethodName)) ∈ BIG := tb2 45 rfl rfl
theorem wd_2_46 : (Jvm.Cond.instanceMethod ({ cls := "PageHold$Order", name := "at", desc := "(I)I" } : Jvm.MethodName)) ∈ BIG := tb2 46 rfl rfl
theorem wd_2_47 : (Jvm.Cond.selects "PageHold$Order" ({ cls := "PageHold$Order", name := "at", desc := "(I)I" } : Jvm.MethodName) ({ cls := "PageHold$Order", name := "at", desc := "(I)I" } : Jvm.MethodName)) ∈ BIG := tb2 47 rfl rfl
theorem wd_2_48 : (Jvm.Cond.code ({ cls := "PageHold$Order", name := "at", desc := "(I)I" } : Jvm.MethodName) prog_5_method_2_code (2 : Nat) (Option.some Jvm.ClassFile.FieldType.int)) ∈ BIG := tb2 48 rfl rfl
theorem wd_2_49 : (Jvm.Cond.methodLink "PageHold$Frames" (89 : Nat) ({ cls := "PageHold$Frames", name := "toFront", desc := "(IZ)V" } : Jvm.MethodName)) ∈ BIG := tb2 49 rfl rfl
theorem wd_2_50 : (Jvm.Cond.instanceMethod ({ cls := "PageHold$Frames", name := "toFront", desc := "(IZ)V" } : Jvm.MethodName)) ∈ BIG := tb2 50 rfl rfl
theorem wd_2_51 : (Jvm.Cond.selects "PageHold$Frames" ({ cls := "PageHold$Frames", name := "toFront", desc := "(IZ)V" } : Jvm.MethodName) ({ cls := "PageHold$Frames", name := "toFront", desc := "(IZ)V" } : Jvm.MethodName)) ∈ BIG := tb2 51 rfl rfl
theorem wd_2_52 : (Jvm.Cond.code ({ cls := "PageHold$Frames", name := "toFront", desc := "(IZ)V" } : Jvm.MethodName) prog_4_method_7_code (5 : Nat) (Option.none : Option Jvm.ClassFile.FieldType)) ∈ BIG := tb2 52 rfl rfl
theorem wd_2_53 : (Jvm.Cond.methodLink "PageHold$Frames" (86 : Nat) ({ cls := "PageHold$Order", name := "take", desc := "(I)V" } : Jvm.MethodName)) ∈ BIG := tb2 53 rfl rfl
theorem wd_2_54 : (Jvm.Cond.instanceMethod ({ cls := "PageHold$Order", name := "take", desc := "(I)V" } : Jvm.MethodName)) ∈ BIG := tb2 54 rfl rfl
theorem wd_2_55 : (Jvm.Cond.selects "PageHold$Order" ({ cls := "PageHold$Order", name := "take", desc := "(I)V" } : Jvm.MethodName) ({ cls := "PageHold$Order", name := "take", desc := "(I)V" } : Jvm.MethodName)) ∈ BIG := tb2 55 rfl rfl
theorem wd_2_56 : (Jvm.Cond.code ({ cls := "PageHold$Order", name := "take", desc := "(I)V" } : Jvm.MethodName) prog_5_method_6_code (3 : Nat) (Option.none : Option Jvm.ClassFile.FieldType)) ∈ BIG := tb2 56 rfl rfl
theorem wd_2_57 : (Jvm.Cond.methodLink "PageHold$Order" (35 : Nat) ({ cls := "PageHold$Order", name := "placeOf", desc := "(I)I" } : Jvm.MethodName)) ∈ BIG := tb2 57 rfl rfl
theorem wd_2_58 : (Jvm.Cond.instanceMethod ({ cls := "PageHold$Order", name := "placeOf", desc := "(I)I" } : Jvm.MethodName)) ∈ BIG := tb2 58 rfl rfl
theorem wd_2_59 : (Jvm.Cond.selects "PageHold$Order" ({ cls := "PageHold$Order", name := "placeOf", desc := "(I)I" } : Jvm.MethodName) ({ cls := "PageHold$Order", name := "placeOf", desc := "(I)I" } : Jvm.MethodName)) ∈ BIG := tb2 59 rfl rfl
theorem wd_2_60 : (Jvm.Cond.code ({ cls := "PageHold$Order", name := "placeOf", desc := "(I)I" } : Jvm.MethodName) prog_5_method_4_code (3 : Nat) (Option.some Jvm.ClassFile.FieldType.int)) ∈ BIG := tb2 60 rfl rfl
theorem wd_2_61 : (Jvm.Cond.methodLink "PageHold$Order" (29 : Nat) ({ cls := "java/lang/System", name := "arraycopy", desc := "(Ljava/lang/Object;ILjava/lang/Object;II)V" } : Jvm.MethodName)) ∈ BIG := tb2 61 rfl rfl
theorem wd_2_62 : (Jvm.Cond.static ({ cls := "java/lang/System", name := "arraycopy", desc := "(Ljava/lang/Object;ILjava/lang/Object;II)V" } : Jvm.MethodName)) ∈ BIG := tb2 62 rfl rfl
theorem wd_2_63 : (Jvm.Cond.native ({ cls := "java/lang/System", name := "arraycopy", desc := "(Ljava/lang/Object;ILjava/lang/Object;II)V" } : Jvm.MethodName)) ∈ BIG := tb2 63 rfl rfl
theorem wd_2_64 : (Jvm.Cond.methodLink "PageHold$Frames" (72 : Nat) ({ cls := "PageHold$Order", name := "addFront", desc := "(I)V" } : Jvm.MethodName)) ∈ BIG := tb2 64 rfl rfl
theorem wd_2_65 : (Jvm.Cond.instanceMethod ({ cls := "PageHold$Order", name := "addFront", desc := "(I)V" } : Jvm.MethodName)) ∈ BIG := tb2 65 rfl rfl
theorem wd_2_66 : (Jvm.Cond.selects "PageHold$Order" ({ cls := "PageHold$Order", name := "addFront", desc := "(I)V" } : Jvm.MethodName) ({ cls := "PageHold$Order", name := "addFront", desc := "(I)V" } : Jvm.MethodName)) ∈ BIG := tb2 66 rfl rfl
theorem wd_2_67 : (Jvm.Cond.code ({ cls := "PageHold$Order", name := "addFront", desc := "(I)V" } : Jvm.MethodName) prog_5_method_5_code (2 : Nat) (Option.none : Option Jvm.ClassFile.FieldType)) ∈ BIG := tb2 67 rfl rfl
theorem wd_2_68 : (Jvm.Cond.methodLink "PageHold" (297 : Nat) ({ cls := "PageHold", name := "lookAtInactive", desc := "()I" } : Jvm.MethodName)) ∈ BIG := tb2 68 rfl rfl
theorem wd_2_70 : (Jvm.Cond.instanceMethod ({ cls := "PageHold", name := "lookAtInactive", desc := "()I" } : Jvm.MethodName)) ∈ BIG := tb2 70 rfl rfl
theorem wd_2_71 : (Jvm.Cond.code ({ cls := "PageHold", name := "lookAtInactive", desc := "()I" } : Jvm.MethodName) prog_1_method_35_code (3 : Nat) (Option.some Jvm.ClassFile.FieldType.int)) ∈ BIG := tb2 71 rfl rfl
theorem wd_2_72 : (Jvm.Cond.methodLink "PageHold" (314 : Nat) ({ cls := "PageHold$Order", name := "last", desc := "()I" } : Jvm.MethodName)) ∈ BIG := tb2 72 rfl rfl
theorem wd_2_73 : (Jvm.Cond.methodLink "PageHold" (317 : Nat) ({ cls := "PageHold$Frames", name := "toFront", desc := "(IZ)V" } : Jvm.MethodName)) ∈ BIG := tb2 73 rfl rfl
theorem wd_2_74 : (Jvm.Cond.methodLink "PageHold" (121 : Nat) ({ cls := "PageHold$Frames", name := "isDirty", desc := "(I)Z" } : Jvm.MethodName)) ∈ BIG := tb2 74 rfl rfl
theorem wd_2_75 : (Jvm.Cond.instanceMethod ({ cls := "PageHold$Frames", name := "isDirty", desc := "(I)Z" } : Jvm.MethodName)) ∈ BIG := tb2 75 rfl rfl
theorem wd_2_76 : (Jvm.Cond.selects "PageHold$Frames" ({ cls := "PageHold$Frames", name := "isDirty", desc := "(I)Z" } : Jvm.MethodName) ({ cls := "PageHold$Frames", name := "isDirty", desc := "(I)Z" } : Jvm.MethodName)) ∈ BIG := tb2 76 rfl rfl
theorem wd_2_77 : (Jvm.Cond.code ({ cls := "PageHold$Frames", name := "isDirty", desc := "(I)Z" } : Jvm.MethodName) prog_4_method_11_code (2 : Nat) (Option.some Jvm.ClassFile.FieldType.boolean)) ∈ BIG := tb2 77 rfl rfl
theorem wd_2_78 : (Jvm.Cond.methodLink "PageHold" (124 : Nat) ({ cls := "PageHold", name := "flush", desc := "(I)Z" } : Jvm.MethodName)) ∈ BIG := tb2 78 rfl rfl
theorem wd_2_80 : (Jvm.Cond.instanceMethod ({ cls := "PageHold", name := "flush", desc := "(I)Z" } : Jvm.MethodName)) ∈ BIG := tb2 80 rfl rfl
theorem wd_2_81 : (Jvm.Cond.code ({ cls := "PageHold", name := "flush", desc := "(I)Z" } : Jvm.MethodName) prog_1_method_38_code (5 : Nat) (Option.some Jvm.ClassFile.FieldType.boolean)) ∈ BIG := tb2 81 rfl rfl
theorem wd_2_82 : (Jvm.Cond.methodLink "PageHold" (320 : Nat) ({ cls := "PageHold$Frames", name := "spotIn", desc := "(I)I" } : Jvm.MethodName)) ∈ BIG := tb2 82 rfl rfl
theorem wd_2_83 : (Jvm.Cond.instanceMethod ({ cls := "PageHold$Frames", name := "spotIn", desc := "(I)I" } : Jvm.MethodName)) ∈ BIG := tb2 83 rfl rfl
theorem wd_2_84 : (Jvm.Cond.selects "PageHold$Frames" ({ cls := "PageHold$Frames", name := "spotIn", desc := "(I)I" } : Jvm.MethodName) ({ cls := "PageHold$Frames", name := "spotIn", desc := "(I)I" } : Jvm.MethodName)) ∈ BIG := tb2 84 rfl rfl
theorem wd_2_85 : (Jvm.Cond.code ({ cls := "PageHold$Frames", name := "spotIn", desc := "(I)I" } : Jvm.MethodName) prog_4_method_3_code (2 : Nat) (Option.some Jvm.ClassFile.FieldType.int)) ∈ BIG := tb2 85 rfl rfl
theorem wd_2_86 : (Jvm.Cond.methodLink "PageHold" (130 : Nat) ({ cls := "PageHold", name := "giveBlock", desc := "(I)Z" } : Jvm.MethodName)) ∈ BIG := tb2 86 rfl rfl
theorem wd_2_88 : (Jvm.Cond.instanceMethod ({ cls := "PageHold", name := "giveBlock", desc := "(I)Z" } : Jvm.MethodName)) ∈ BIG := tb2 88 rfl rfl
theorem wd_2_89 : (Jvm.Cond.code ({ cls := "PageHold", name := "giveBlock", desc := "(I)Z" } : Jvm.MethodName) prog_1_method_39_code (2 : Nat) (Option.some Jvm.ClassFile.FieldType.boolean)) ∈ BIG := tb2 89 rfl rfl
theorem wd_2_90 : (Jvm.Cond.methodLink "PageHold" (336 : Nat) ({ cls := "PageHold$Disk", name := "leastFree", desc := "()I" } : Jvm.MethodName)) ∈ BIG := tb2 90 rfl rfl
theorem wd_2_91 : (Jvm.Cond.instanceMethod ({ cls := "PageHold$Disk", name := "leastFree", desc := "()I" } : Jvm.MethodName)) ∈ BIG := tb2 91 rfl rfl
theorem wd_2_92 : (Jvm.Cond.selects "PageHold$Disk" ({ cls := "PageHold$Disk", name := "leastFree", desc := "()I" } : Jvm.MethodName) ({ cls := "PageHold$Disk", name := "leastFree", desc := "()I" } : Jvm.MethodName)) ∈ BIG := tb2 92 rfl rfl
theorem wd_2_93 : (Jvm.Cond.code ({ cls := "PageHold$Disk", name := "leastFree", desc := "()I" } : Jvm.MethodName) prog_2_method_4_code (2 : Nat) (Option.some Jvm.ClassFile.FieldType.int)) ∈ BIG := tb2 93 rfl rfl
theorem wd_2_94 : (Jvm.Cond.methodLink "PageHold" (330 : Nat) ({ cls := "PageHold$Files", name := "setError", desc := "(II)V" } : Jvm.MethodName)) ∈ BIG := tb2 94 rfl rfl
theorem wd_2_95 : (Jvm.Cond.instanceMethod ({ cls := "PageHold$Files", name := "setError", desc := "(II)V" } : Jvm.MethodName)) ∈ BIG := tb2 95 rfl rfl
theorem wd_2_96 : (Jvm.Cond.selects "PageHold$Files" ({ cls := "PageHold$Files", name := "setError", desc := "(II)V" } : Jvm.MethodName) ({ cls := "PageHold$Files", name := "setError", desc := "(II)V" } : Jvm.MethodName)) ∈ BIG := tb2 96 rfl rfl
theorem wd_2_97 : (Jvm.Cond.code ({ cls := "PageHold$Files", name := "setError", desc := "(II)V" } : Jvm.MethodName) prog_3_method_3_code (3 : Nat) (Option.none : Option Jvm.ClassFile.FieldType)) ∈ BIG := tb2 97 rfl rfl
theorem wd_2_98 : (Jvm.Cond.methodLink "PageHold" (326 : Nat) ({ cls := "PageHold$Disk", name := "save", desc := "(ILPageHold$Words;II)Z" } : Jvm.MethodName)) ∈ BIG := tb2 98 rfl rfl
theorem wd_2_99 : (Jvm.Cond.instanceMethod ({ cls := "PageHold$Disk", name := "save", desc := "(ILPageHold$Words;II)Z" } : Jvm.MethodName)) ∈ BIG := tb2 99 rfl rfl
theorem wd_2_100 : (Jvm.Cond.selects "PageHold$Disk" ({ cls := "PageHold$Disk", name := "save", desc := "(ILPageHold$Words;II)Z" } : Jvm.MethodName) ({ cls := "PageHold$Disk", name := "save", desc := "(ILPageHold$Words;II)Z" } : Jvm.MethodName)) ∈ BIG := tb2 100 rfl rfl
theorem wd_2_101 : (Jvm.Cond.code ({ cls := "PageHold$Disk", name := "save", desc := "(ILPageHold$Words;II)Z" } : Jvm.MethodName) prog_2_method_7_code (5 : Nat) (Option.some Jvm.ClassFile.FieldType.boolean)) ∈ BIG := tb2 101 rfl rfl
theorem wd_2_102 : (Jvm.Cond.methodLink "PageHold$Disk" (60 : Nat) ({ cls := "PageHold$Disk", name := "has", desc := "(I)Z" } : Jvm.MethodName)) ∈ BIG := tb2 102 rfl rfl
theorem wd_2_103 : (Jvm.Cond.instanceMethod ({ cls := "PageHold$Disk", name := "has", desc := "(I)Z" } : Jvm.MethodName)) ∈ BIG := tb2 103 rfl rfl
theorem wd_2_104 : (Jvm.Cond.selects "PageHold$Disk" ({ cls := "PageHold$Disk", name := "has", desc := "(I)Z" } : Jvm.MethodName) ({ cls := "PageHold$Disk", name := "has", desc := "(I)Z" } : Jvm.MethodName)) ∈ BIG := tb2 104 rfl rfl
theorem wd_2_105 : (Jvm.Cond.code ({ cls := "PageHold$Disk", name := "has", desc := "(I)Z" } : Jvm.MethodName) prog_2_method_3_code (2 : Nat) (Option.some Jvm.ClassFile.FieldType.boolean)) ∈ BIG := tb2 105 rfl rfl
theorem wd_2_106 : (Jvm.Cond.methodLink "PageHold$Disk" (64 : Nat) ({ cls := "PageHold$Words", name := "copyPage", desc := "(ILPageHold$Words;I)V" } : Jvm.MethodName)) ∈ BIG := tb2 106 rfl rfl
theorem wd_2_107 : (Jvm.Cond.instanceMethod ({ cls := "PageHold$Words", name := "copyPage", desc := "(ILPageHold$Words;I)V" } : Jvm.MethodName)) ∈ BIG := tb2 107 rfl rfl
theorem wd_2_108 : (Jvm.Cond.selects "PageHold$Words" ({ cls := "PageHold$Words", name := "copyPage", desc := "(ILPageHold$Words;I)V" } : Jvm.MethodName) ({ cls := "PageHold$Words", name := "copyPage", desc := "(ILPageHold$Words;I)V" } : Jvm.MethodName)) ∈ BIG := tb2 108 rfl rfl
theorem wd_2_109 : (Jvm.Cond.code ({ cls := "PageHold$Words", name := "copyPage", desc := "(ILPageHold$Words;I)V" } : Jvm.MethodName) prog_7_method_5_code (8 : Nat) (Option.none : Option Jvm.ClassFile.FieldType)) ∈ BIG := tb2 109 rfl rfl
theorem wd_2_110 : (Jvm.Cond.methodLink "PageHold$Disk" (72 : Nat) ({ cls := "PageHold$Words", name := "clear", desc := "(II)V" } : Jvm.MethodName)) ∈ BIG := tb2 110 rfl rfl
theorem wd_2_111 : (Jvm.Cond.instanceMethod ({ cls := "PageHold$Words", name := "clear", desc := "(II)V" } : Jvm.MethodName)) ∈ BIG := tb2 111 rfl rfl
theorem wd_2_112 : (Jvm.Cond.selects "PageHold$Words" ({ cls := "PageHold$Words", name := "clear", desc := "(II)V" } : Jvm.MethodName) ({ cls := "PageHold$Words", name := "clear", desc := "(II)V" } : Jvm.MethodName)) ∈ BIG := tb2 112 rfl rfl
theorem wd_2_113 : (Jvm.Cond.code ({ cls := "PageHold$Words", name := "clear", desc := "(II)V" } : Jvm.MethodName) prog_7_method_4_code (4 : Nat) (Option.none : Option Jvm.ClassFile.FieldType)) ∈ BIG := tb2 113 rfl rfl
theorem wd_2_114 : (Jvm.Cond.constantLong "PageHold$Words" (21 : Nat) (255 : Int64)) ∈ BIG := tb2 114 rfl rfl
theorem wd_2_115 : (Jvm.Cond.constantLong "PageHold$Words" (23 : Nat) (-1 : Int64)) ∈ BIG := tb2 115 rfl rfl
theorem wd_2_116 : (Jvm.Cond.methodLink "PageHold$Disk" (68 : Nat) ({ cls := "PageHold$Disk", name := "note", desc := "(II)V" } : Jvm.MethodName)) ∈ BIG := tb2 116 rfl rfl
theorem wd_2_118 : (Jvm.Cond.instanceMethod ({ cls := "PageHold$Disk", name := "note", desc := "(II)V" } : Jvm.MethodName)) ∈ BIG := tb2 118 rfl rfl
theorem wd_2_119 : (Jvm.Cond.code ({ cls := "PageHold$Disk", name := "note", desc := "(II)V" } : Jvm.MethodName) prog_2_method_8_code (4 : Nat) (Option.none : Option Jvm.ClassFile.FieldType)) ∈ BIG := tb2 119 rfl rfl
theorem wd_2_120 : (Jvm.Cond.methodLink "PageHold" (333 : Nat) ({ cls := "PageHold$Frames", name := "clean", desc := "(I)V" } : Jvm.MethodName)) ∈ BIG := tb2 120 rfl rfl
theorem wd_2_121 : (Jvm.Cond.instanceMethod ({ cls := "PageHold$Frames", name := "clean", desc := "(I)V" } : Jvm.MethodName)) ∈ BIG := tb2 121 rfl rfl
theorem wd_2_122 : (Jvm.Cond.selects "PageHold$Frames" ({ cls := "PageHold$Frames", name := "clean", desc := "(I)V" } : Jvm.MethodName) ({ cls := "PageHold$Frames", name := "clean", desc := "(I)V" } : Jvm.MethodName)) ∈ BIG := tb2 122 rfl rfl
theorem wd_2_123 : (Jvm.Cond.code ({ cls := "PageHold$Frames", name := "clean", desc := "(I)V" } : Jvm.MethodName) prog_4_method_13_code (2 : Nat) (Option.none : Option Jvm.ClassFile.FieldType)) ∈ BIG := tb2 123 rfl rfl
theorem wd_2_124 : (Jvm.Cond.methodLink "PageHold$Frames" (102 : Nat) ({ cls := "PageHold$Frames", name := "isDirty", desc := "(I)Z" } : Jvm.MethodName)) ∈ BIG := tb2 124 rfl rfl
theorem wd_2_125 : (Jvm.Cond.methodLink "PageHold" (300 : Nat) ({ cls := "PageHold", name := "lookAtActive", desc := "()I" } : Jvm.MethodName)) ∈ BIG := tb2 125 rfl rfl
theorem wd_2_127 : (Jvm.Cond.instanceMethod ({ cls := "PageHold", name := "lookAtActive", desc := "()I" } : Jvm.MethodName)) ∈ BIG := tb2 127 rfl rfl
theorem wd_2_128 : (Jvm.Cond.code ({ cls := "PageHold", name := "lookAtActive", desc := "()I" } : Jvm.MethodName) prog_1_method_36_code (3 : Nat) (Option.some Jvm.ClassFile.FieldType.int)) ∈ BIG := tb2 128 rfl rfl
theorem wd_2_129 : (Jvm.Cond.methodLink "PageHold" (218 : Nat) ({ cls := "PageHold$Order", name := "at", desc := "(I)I" } : Jvm.MethodName)) ∈ BIG := tb2 129 rfl rfl
theorem wd_2_130 : (Jvm.Cond.methodLink "PageHold" (150 : Nat) ({ cls := "PageHold", name := "evict", desc := "(I)V" } : Jvm.MethodName)) ∈ BIG := tb2 130 rfl rfl
theorem wd_2_132 : (Jvm.Cond.instanceMethod ({ cls := "PageHold", name := "evict", desc := "(I)V" } : Jvm.MethodName)) ∈ BIG := tb2 132 rfl rfl
theorem wd_2_133 : (Jvm.Cond.code ({ cls := "PageHold", name := "evict", desc := "(I)V" } : Jvm.MethodName) prog_1_method_37_code (3 : Nat) (Option.none : Option Jvm.ClassFile.FieldType)) ∈ BIG := tb2 133 rfl rfl
theorem wd_2_134 : (Jvm.Cond.methodLink "PageHold" (156 : Nat) ({ cls := "PageHold$Frames", name := "leave", desc := "(I)V" } : Jvm.MethodName)) ∈ BIG := tb2 134 rfl rfl
theorem wd_2_135 : (Jvm.Cond.instanceMethod ({ cls := "PageHold$Frames", name := "leave", desc := "(I)V" } : Jvm.MethodName)) ∈ BIG := tb2 135 rfl rfl
theorem wd_2_136 : (Jvm.Cond.selects "PageHold$Frames" ({ cls := "PageHold$Frames", name := "leave", desc := "(I)V" } : Jvm.MethodName) ({ cls := "PageHold$Frames", name := "leave", desc := "(I)V" } : Jvm.MethodName)) ∈ BIG := tb2 136 rfl rfl
theorem wd_2_137 : (Jvm.Cond.code ({ cls := "PageHold$Frames", name := "leave", desc := "(I)V" } : Jvm.MethodName) prog_4_method_6_code (4 : Nat) (Option.none : Option Jvm.ClassFile.FieldType)) ∈ BIG := tb2 137 rfl rfl
theorem wd_2_138 : (Jvm.Cond.methodLink "PageHold$Frames" (75 : Nat) ({ cls := "PageHold$Frames", name := "spotIn", desc := "(I)I" } : Jvm.MethodName)) ∈ BIG := tb2 138 rfl rfl
theorem wd_2_139 : (Jvm.Cond.methodLink "PageHold$Frames" (79 : Nat) ({ cls := "PageHold$Frames", name := "clean", desc := "(I)V" } : Jvm.MethodName)) ∈ BIG := tb2 139 rfl rfl
theorem wd_2_140 : (Jvm.Cond.methodLink "PageHold$Frames" (82 : Nat) ({ cls := "PageHold$Frames", name := "setPinned", desc := "(IZ)V" } : Jvm.MethodName)) ∈ BIG := tb2 140 rfl rfl
theorem wd_2_141 : (Jvm.Cond.instanceMethod ({ cls := "PageHold$Frames", name := "setPinned", desc := "(IZ)V" } : Jvm.MethodName)) ∈ BIG := tb2 141 rfl rfl
theorem wd_2_142 : (Jvm.Cond.selects "PageHold$Frames" ({ cls := "PageHold$Frames", name := "setPinned", desc := "(IZ)V" } : Jvm.MethodName) ({ cls := "PageHold$Frames", name := "setPinned", desc := "(IZ)V" } : Jvm.MethodName)) ∈ BIG := tb2 142 rfl rfl
theorem wd_2_143 : (Jvm.Cond.code ({ cls := "PageHold$Frames", name := "setPinned", desc := "(IZ)V" } : Jvm.MethodName) prog_4_method_14_code (3 : Nat) (Option.none : Option Jvm.ClassFile.FieldType)) ∈ BIG := tb2 143 rfl rfl
theorem wd_2_144 : (Jvm.Cond.methodLink "PageHold" (323 : Nat) ({ cls := "PageHold$Shadows", name := "add", desc := "(I)V" } : Jvm.MethodName)) ∈ BIG := tb2 144 rfl rfl
theorem wd_2_145 : (Jvm.Cond.instanceMethod ({ cls := "PageHold$Shadows", name := "add", desc := "(I)V" } : Jvm.MethodName)) ∈ BIG := tb2 145 rfl rfl
theorem wd_2_146 : (Jvm.Cond.selects "PageHold$Shadows" ({ cls := "PageHold$Shadows", name := "add", desc := "(I)V" } : Jvm.MethodName) ({ cls := "PageHold$Shadows", name := "add", desc := "(I)V" } : Jvm.MethodName)) ∈ BIG := tb2 146 rfl rfl
theorem wd_2_147 : (Jvm.Cond.code ({ cls := "PageHold$Shadows", name := "add", desc := "(I)V" } : Jvm.MethodName) prog_6_method_4_code (2 : Nat) (Option.none : Option Jvm.ClassFile.FieldType)) ∈ BIG := tb2 147 rfl rfl
theorem wd_2_148 : (Jvm.Cond.methodLink "PageHold$Shadows" (41 : Nat) ({ cls := "PageHold$Shadows", name := "forget", desc := "(I)V" } : Jvm.MethodName)) ∈ BIG := tb2 148 rfl rfl
theorem wd_2_149 : (Jvm.Cond.instanceMethod ({ cls := "PageHold$Shadows", name := "forget", desc := "(I)V" } : Jvm.MethodName)) ∈ BIG := tb2 149 rfl rfl
theorem wd_2_150 : (Jvm.Cond.selects "PageHold$Shadows" ({ cls := "PageHold$Shadows", name := "forget", desc := "(I)V" } : Jvm.MethodName) ({ cls := "PageHold$Shadows", name := "forget", desc := "(I)V" } : Jvm.MethodName)) ∈ BIG := tb2 150 rfl rfl
theorem wd_2_151 : (Jvm.Cond.code ({ cls := "PageHold$Shadows", name := "forget", desc := "(I)V" } : Jvm.MethodName) prog_6_method_5_code (3 : Nat) (Option.none : Option Jvm.ClassFile.FieldType)) ∈ BIG := tb2 151 rfl rfl
theorem wd_2_152 : (Jvm.Cond.methodLink "PageHold$Shadows" (37 : Nat) ({ cls := "PageHold$Shadows", name := "of", desc := "(I)I" } : Jvm.MethodName)) ∈ BIG := tb2 152 rfl rfl
theorem wd_2_153 : (Jvm.Cond.instanceMethod ({ cls := "PageHold$Shadows", name := "of", desc := "(I)I" } : Jvm.MethodName)) ∈ BIG := tb2 153 rfl rfl
theorem wd_2_154 : (Jvm.Cond.selects "PageHold$Shadows" ({ cls := "PageHold$Shadows", name := "of", desc := "(I)I" } : Jvm.MethodName) ({ cls := "PageHold$Shadows", name := "of", desc := "(I)I" } : Jvm.MethodName)) ∈ BIG := tb2 154 rfl rfl
theorem wd_2_155 : (Jvm.Cond.code ({ cls := "PageHold$Shadows", name := "of", desc := "(I)I" } : Jvm.MethodName) prog_6_method_2_code (2 : Nat) (Option.some Jvm.ClassFile.FieldType.int)) ∈ BIG := tb2 155 rfl rfl
theorem wd_2_156 : (Jvm.Cond.methodLink "PageHold$Shadows" (45 : Nat) ({ cls := "java/lang/System", name := "arraycopy", desc := "(Ljava/lang/Object;ILjava/lang/Object;II)V" } : Jvm.MethodName)) ∈ BIG := tb2 156 rfl rfl
theorem wd_2_157 : (Jvm.Cond.methodLink "PageHold" (279 : Nat) ({ cls := "PageHold$Words", name := "clear", desc := "(II)V" } : Jvm.MethodName)) ∈ BIG := tb2 157 rfl rfl
theorem wd_2_158 : (Jvm.Cond.methodLink "PageHold" (303 : Nat) ({ cls := "PageHold$Disk", name := "load", desc := "(ILPageHold$Words;I)V" } : Jvm.MethodName)) ∈ BIG := tb2 158 rfl rfl
theorem wd_2_159 : (Jvm.Cond.instanceMethod ({ cls := "PageHold$Disk", name := "load", desc := "(ILPageHold$Words;I)V" } : Jvm.MethodName)) ∈ BIG := tb2 159 rfl rfl
theorem wd_2_160 : (Jvm.Cond.selects "PageHold$Disk" ({ cls := "PageHold$Disk", name := "load", desc := "(ILPageHold$Words;I)V" } : Jvm.MethodName) ({ cls := "PageHold$Disk", name := "load", desc := "(ILPageHold$Words;I)V" } : Jvm.MethodName)) ∈ BIG := tb2 160 rfl rfl
theorem wd_2_161 : (Jvm.Cond.code ({ cls := "PageHold$Disk", name := "load", desc := "(ILPageHold$Words;I)V" } : Jvm.MethodName) prog_2_method_6_code (4 : Nat) (Option.none : Option Jvm.ClassFile.FieldType)) ∈ BIG := tb2 161 rfl rfl
theorem wd_2_162 : (Jvm.Cond.methodLink "PageHold" (307 : Nat) ({ cls := "PageHold$Shadows", name := "isRecent", desc := "(II)Z" } : Jvm.MethodName)) ∈ BIG := tb2 162 rfl rfl
theorem wd_2_163 : (Jvm.Cond.instanceMethod ({ cls := "PageHold$Shadows", name := "isRecent", desc := "(II)Z" } : Jvm.MethodName)) ∈ BIG := tb2 163 rfl rfl
theorem wd_2_164 : (Jvm.Cond.selects "PageHold$Shadows" ({ cls := "PageHold$Shadows", name := "isRecent", desc := "(II)Z" } : Jvm.MethodName) ({ cls := "PageHold$Shadows", name := "isRecent", desc := "(II)Z" } : Jvm.MethodName)) ∈ BIG := tb2 164 rfl rfl
theorem wd_2_165 : (Jvm.Cond.code ({ cls := "PageHold$Shadows", name := "isRecent", desc := "(II)Z" } : Jvm.MethodName) prog_6_method_3_code (4 : Nat) (Option.some Jvm.ClassFile.FieldType.boolean)) ∈ BIG := tb2 165 rfl rfl
theorem wd_2_166 : (Jvm.Cond.methodLink "PageHold" (282 : Nat) ({ cls := "PageHold$Shadows", name := "forget", desc := "(I)V" } : Jvm.MethodName)) ∈ BIG := tb2 166 rfl rfl
theorem wd_2_167 : (Jvm.Cond.methodLink "PageHold" (310 : Nat) ({ cls := "PageHold$Frames", name := "enter", desc := "(IIZ)V" } : Jvm.MethodName)) ∈ BIG := tb2 167 rfl rfl
theorem wd_2_168 : (Jvm.Cond.instanceMethod ({ cls := "PageHold$Frames", name := "enter", desc := "(IIZ)V" } : Jvm.MethodName)) ∈ BIG := tb2 168 rfl rfl
theorem wd_2_169 : (Jvm.Cond.selects "PageHold$Frames" ({ cls := "PageHold$Frames", name := "enter", desc := "(IIZ)V" } : Jvm.MethodName) ({ cls := "PageHold$Frames", name := "enter", desc := "(IIZ)V" } : Jvm.MethodName)) ∈ BIG := tb2 169 rfl rfl
theorem wd_2_170 : (Jvm.Cond.code ({ cls := "PageHold$Frames", name := "enter", desc := "(IIZ)V" } : Jvm.MethodName) prog_4_method_5_code (5 : Nat) (Option.none : Option Jvm.ClassFile.FieldType)) ∈ BIG := tb2 170 rfl rfl
theorem wd_2_171 : (Jvm.Cond.methodLink "PageHold" (288 : Nat) ({ cls := "PageHold$Frames", name := "seeAgain", desc := "(I)V" } : Jvm.MethodName)) ∈ BIG := tb2 171 rfl rfl
theorem wd_2_172 : (Jvm.Cond.instanceMethod ({ cls := "PageHold$Frames", name := "seeAgain", desc := "(I)V" } : Jvm.MethodName)) ∈ BIG := tb2 172 rfl rfl
theorem wd_2_173 : (Jvm.Cond.selects "PageHold$Frames" ({ cls := "PageHold$Frames", name := "seeAgain", desc := "(I)V" } : Jvm.MethodName) ({ cls := "PageHold$Frames", name := "seeAgain", desc := "(I)V" } : Jvm.MethodName)) ∈ BIG := tb2 173 rfl rfl
theorem wd_2_174 : (Jvm.Cond.code ({ cls := "PageHold$Frames", name := "seeAgain", desc := "(I)V" } : Jvm.MethodName) prog_4_method_8_code (2 : Nat) (Option.none : Option Jvm.ClassFile.FieldType)) ∈ BIG := tb2 174 rfl rfl
theorem wd_2_175 : (Jvm.Cond.methodLink "PageHold" (263 : Nat) ({ cls := "java/lang/Math", name := "max", desc := "(II)I" } : Jvm.MethodName)) ∈ BIG := tb2 175 rfl rfl
theorem wd_2_176 : (Jvm.Cond.methodLink "PageHold" (86 : Nat) ({ cls := "PageHold$Words", name := "byteAt", desc := "(I)I" } : Jvm.MethodName)) ∈ BIG := tb2 176 rfl rfl
theorem wd_2_177 : (Jvm.Cond.instanceMethod ({ cls := "PageHold$Words", name := "byteAt", desc := "(I)I" } : Jvm.MethodName)) ∈ BIG := tb2 177 rfl rfl
theorem wd_2_178 : (Jvm.Cond.selects "PageHold$Words" ({ cls := "PageHold$Words", name := "byteAt", desc := "(I)I" } : Jvm.MethodName) ({ cls := "PageHold$Words", name := "byteAt", desc := "(I)I" } : Jvm.MethodName)) ∈ BIG := tb2 178 rfl rfl
theorem wd_2_179 : (Jvm.Cond.code ({ cls := "PageHold$Words", name := "byteAt", desc := "(I)I" } : Jvm.MethodName) prog_7_method_2_code (2 : Nat) (Option.some Jvm.ClassFile.FieldType.int)) ∈ BIG := tb2 179 rfl rfl
theorem wd_2_180 : (Jvm.Cond.methodLink "PageHold" (94 : Nat) ({ cls := "PageHold$Words", name := "put", desc := "(II)V" } : Jvm.MethodName)) ∈ BIG := tb2 180 rfl rfl
theorem wd_2_181 : (Jvm.Cond.instanceMethod ({ cls := "PageHold$Words", name := "put", desc := "(II)V" } : Jvm.MethodName)) ∈ BIG := tb2 181 rfl rfl
theorem wd_2_182 : (Jvm.Cond.selects "PageHold$Words" ({ cls := "PageHold$Words", name := "put", desc := "(II)V" } : Jvm.MethodName) ({ cls := "PageHold$Words", name := "put", desc := "(II)V" } : Jvm.MethodName)) ∈ BIG := tb2 182 rfl rfl
theorem wd_2_183 : (Jvm.Cond.code ({ cls := "PageHold$Words", name := "put", desc := "(II)V" } : Jvm.MethodName) prog_7_method_3_code (6 : Nat) (Option.none : Option Jvm.ClassFile.FieldType)) ∈ BIG := tb2 183 rfl rfl
theorem wd_2_184 : (Jvm.Cond.methodLink "PageHold" (267 : Nat) ({ cls := "PageHold", name := "bringAhead", desc := "(II)V" } : Jvm.MethodName)) ∈ BIG := tb2 184 rfl rfl
theorem wd_2_186 : (Jvm.Cond.instanceMethod ({ cls := "PageHold", name := "bringAhead", desc := "(II)V" } : Jvm.MethodName)) ∈ BIG := tb2 186 rfl rfl
theorem wd_2_187 : (Jvm.Cond.code ({ cls := "PageHold", name := "bringAhead", desc := "(II)V" } : Jvm.MethodName) prog_1_method_29_code (9 : Nat) (Option.none : Option Jvm.ClassFile.FieldType)) ∈ BIG := tb2 187 rfl rfl
theorem wd_2_188 : (Jvm.Cond.methodLink "PageHold" (102 : Nat) ({ cls := "PageHold", name := "pagesIn", desc := "(I)I" } : Jvm.MethodName)) ∈ BIG := tb2 188 rfl rfl
theorem wd_2_189 : (Jvm.Cond.static ({ cls := "PageHold", name := "pagesIn", desc := "(I)I" } : Jvm.MethodName)) ∈ BIG := tb2 189 rfl rfl
theorem wd_2_190 : (Jvm.Cond.code ({ cls := "PageHold", name := "pagesIn", desc := "(I)I" } : Jvm.MethodName) prog_1_method_27_code (1 : Nat) (Option.some Jvm.ClassFile.FieldType.int)) ∈ BIG := tb2 190 rfl rfl
theorem wd_2_191 : (Jvm.Cond.methodLink "PageHoldLaw" (26 : Nat) ({ cls := "PageHold", name := "hand", desc := "(I)I" } : Jvm.MethodName)) ∈ BIG := tb2 191 rfl rfl
theorem wd_2_192 : (Jvm.Cond.instanceMethod ({ cls := "PageHold", name := "hand", desc := "(I)I" } : Jvm.MethodName)) ∈ BIG := tb2 192 rfl rfl
theorem wd_2_193 : (Jvm.Cond.selects "PageHold" ({ cls := "PageHold", name := "hand", desc := "(I)I" } : Jvm.MethodName) ({ cls := "PageHold", name := "hand", desc := "(I)I" } : Jvm.MethodName)) ∈ BIG := tb2 193 rfl rfl
theorem wd_2_194 : (Jvm.Cond.code ({ cls := "PageHold", name := "hand", desc := "(I)I" } : Jvm.MethodName) prog_1_method_3_code (2 : Nat) (Option.some Jvm.ClassFile.FieldType.int)) ∈ BIG := tb2 194 rfl rfl
theorem wd_2_195 : (Jvm.Cond.methodLink "PageHoldLaw" (33 : Nat) ({ cls := "PageHold", name := "write", desc := "(IIJI)I" } : Jvm.MethodName)) ∈ BIG := tb2 195 rfl rfl
theorem wd_2_196 : (Jvm.Cond.instanceMethod ({ cls := "PageHold", name := "write", desc := "(IIJI)I" } : Jvm.MethodName)) ∈ BIG := tb2 196 rfl rfl
theorem wd_2_197 : (Jvm.Cond.selects "PageHold" ({ cls := "PageHold", name := "write", desc := "(IIJI)I" } : Jvm.MethodName) ({ cls := "PageHold", name := "write", desc := "(IIJI)I" } : Jvm.MethodName)) ∈ BIG := tb2 197 rfl rfl
theorem wd_2_198 : (Jvm.Cond.code ({ cls := "PageHold", name := "write", desc := "(IIJI)I" } : Jvm.MethodName) prog_1_method_4_code (7 : Nat) (Option.some Jvm.ClassFile.FieldType.int)) ∈ BIG := tb2 198 rfl rfl
theorem wd_2_199 : (Jvm.Cond.methodLink "PageHold" (90 : Nat) ({ cls := "PageHold", name := "isStretch", desc := "(III)Z" } : Jvm.MethodName)) ∈ BIG := tb2 199 rfl rfl
theorem wd_2_200 : (Jvm.Cond.static ({ cls := "PageHold", name := "isStretch", desc := "(III)Z" } : Jvm.MethodName)) ∈ BIG := tb2 200 rfl rfl
theorem wd_2_201 : (Jvm.Cond.code ({ cls := "PageHold", name := "isStretch", desc := "(III)Z" } : Jvm.MethodName) prog_1_method_25_code (3 : Nat) (Option.some Jvm.ClassFile.FieldType.boolean)) ∈ BIG := tb2 201 rfl rfl
theorem wd_2_202 : (Jvm.Cond.methodLink "PageHold" (98 : Nat) ({ cls := "PageHold", name := "putRow", desc := "(III)I" } : Jvm.MethodName)) ∈ BIG := tb2 202 rfl rfl
theorem wd_2_204 : (Jvm.Cond.instanceMethod ({ cls := "PageHold", name := "putRow", desc := "(III)I" } : Jvm.MethodName)) ∈ BIG := tb2 204 rfl rfl
theorem wd_2_205 : (Jvm.Cond.code ({ cls := "PageHold", name := "putRow", desc := "(III)I" } : Jvm.MethodName) prog_1_method_30_code (11 : Nat) (Option.some Jvm.ClassFile.FieldType.int)) ∈ BIG := tb2 205 rfl rfl
theorem wd_2_206 : (Jvm.Cond.methodLink "PageHold" (273 : Nat) ({ cls := "PageHold$Frames", name := "soil", desc := "(II)V" } : Jvm.MethodName)) ∈ BIG := tb2 206 rfl rfl
theorem wd_2_207 : (Jvm.Cond.instanceMethod ({ cls := "PageHold$Frames", name := "soil", desc := "(II)V" } : Jvm.MethodName)) ∈ BIG := tb2 207 rfl rfl
theorem wd_2_208 : (Jvm.Cond.selects "PageHold$Frames" ({ cls := "PageHold$Frames", name := "soil", desc := "(II)V" } : Jvm.MethodName) ({ cls := "PageHold$Frames", name := "soil", desc := "(II)V" } : Jvm.MethodName)) ∈ BIG := tb2 208 rfl rfl
theorem wd_2_209 : (Jvm.Cond.code ({ cls := "PageHold$Frames", name := "soil", desc := "(II)V" } : Jvm.MethodName) prog_4_method_12_code (3 : Nat) (Option.none : Option Jvm.ClassFile.FieldType)) ∈ BIG := tb2 209 rfl rfl
theorem wd_2_210 : (Jvm.Cond.methodLink "PageHold" (276 : Nat) ({ cls := "PageHold", name := "writeSurplus", desc := "()V" } : Jvm.MethodName)) ∈ BIG := tb2 210 rfl rfl
theorem wd_2_212 : (Jvm.Cond.instanceMethod ({ cls := "PageHold", name := "writeSurplus", desc := "()V" } : Jvm.MethodName)) ∈ BIG := tb2 212 rfl rfl
theorem wd_2_213 : (Jvm.Cond.code ({ cls := "PageHold", name := "writeSurplus", desc := "()V" } : Jvm.MethodName) prog_1_method_40_code (5 : Nat) (Option.none : Option Jvm.ClassFile.FieldType)) ∈ BIG := tb2 213 rfl rfl
theorem wd_2_214 : (Jvm.Cond.constantLong "PageHold" (337 : Nat) (-1 : Int64)) ∈ BIG := tb2 214 rfl rfl
theorem wd_2_215 : (Jvm.Cond.methodLink "PageHold" (339 : Nat) ({ cls := "PageHold$Frames", name := "oldestDirty", desc := "(J)I" } : Jvm.MethodName)) ∈ BIG := tb2 215 rfl rfl
theorem wd_2_216 : (Jvm.Cond.instanceMethod ({ cls := "PageHold$Frames", name := "oldestDirty", desc := "(J)I" } : Jvm.MethodName)) ∈ BIG := tb2 216 rfl rfl
theorem wd_2_217 : (Jvm.Cond.selects "PageHold$Frames" ({ cls := "PageHold$Frames", name := "oldestDirty", desc := "(J)I" } : Jvm.MethodName) ({ cls := "PageHold$Frames", name := "oldestDirty", desc := "(J)I" } : Jvm.MethodName)) ∈ BIG := tb2 217 rfl rfl
theorem wd_2_218 : (Jvm.Cond.code ({ cls := "PageHold$Frames", name := "oldestDirty", desc := "(J)I" } : Jvm.MethodName) prog_4_method_16_code (9 : Nat) (Option.some Jvm.ClassFile.FieldType.int)) ∈ BIG := tb2 218 rfl rfl
theorem wd_2_219 : (Jvm.Cond.methodLink "PageHold$Frames" (110 : Nat) ({ cls := "PageHold$Frames", name := "ageKey", desc := "(I)J" } : Jvm.MethodName)) ∈ BIG := tb2 219 rfl rfl
theorem wd_2_220 : (Jvm.Cond.instanceMethod ({ cls := "PageHold$Frames", name := "ageKey", desc := "(I)J" } : Jvm.MethodName)) ∈ BIG := tb2 220 rfl rfl
theorem wd_2_221 : (Jvm.Cond.selects "PageHold$Frames" ({ cls := "PageHold$Frames", name := "ageKey", desc := "(I)J" } : Jvm.MethodName) ({ cls := "PageHold$Frames", name := "ageKey", desc := "(I)J" } : Jvm.MethodName)) ∈ BIG := tb2 221 rfl rfl
theorem wd_2_222 : (Jvm.Cond.code ({ cls := "PageHold$Frames", name := "ageKey", desc := "(I)J" } : Jvm.MethodName) prog_4_method_15_code (2 : Nat) (Option.some Jvm.ClassFile.FieldType.long)) ∈ BIG := tb2 222 rfl rfl
theorem wd_2_223 : (Jvm.Cond.constantLong "PageHold$Frames" (106 : Nat) (3072 : Int64)) ∈ BIG := tb2 223 rfl rfl
theorem wd_2_224 : (Jvm.Cond.constantLong "PageHold$Frames" (108 : Nat) (-1 : Int64)) ∈ BIG := tb2 224 rfl rfl
theorem wd_2_225 : (Jvm.Cond.methodLink "PageHold" (343 : Nat) ({ cls := "PageHold$Frames", name := "ageKey", desc := "(I)J" } : Jvm.MethodName)) ∈ BIG := tb2 225 rfl rfl
theorem wd_2_226 : (Jvm.Cond.methodLink "PageHoldLaw" (38 : Nat) ({ cls := "PageHold", name := "fill", desc := "(IIII)I" } : Jvm.MethodName)) ∈ BIG := tb2 226 rfl rfl
theorem wd_2_227 : (Jvm.Cond.instanceMethod ({ cls := "PageHold", name := "fill", desc := "(IIII)I" } : Jvm.MethodName)) ∈ BIG := tb2 227 rfl rfl
theorem wd_2_228 : (Jvm.Cond.selects "PageHold" ({ cls := "PageHold", name := "fill", desc := "(IIII)I" } : Jvm.MethodName) ({ cls := "PageHold", name := "fill", desc := "(IIII)I" } : Jvm.MethodName)) ∈ BIG := tb2 228 rfl rfl
theorem wd_2_229 : (Jvm.Cond.code ({ cls := "PageHold", name := "fill", desc := "(IIII)I" } : Jvm.MethodName) prog_1_method_5_code (6 : Nat) (Option.some Jvm.ClassFile.FieldType.int)) ∈ BIG := tb2 229 rfl rfl
theorem wd_2_230 : (Jvm.Cond.methodLink "PageHoldLaw" (43 : Nat) ({ cls := "PageHold", name := "truncate", desc := "(II)I" } : Jvm.MethodName)) ∈ BIG := tb2 230 rfl rfl
theorem wd_2_231 : (Jvm.Cond.instanceMethod ({ cls := "PageHold", name := "truncate", desc := "(II)I" } : Jvm.MethodName)) ∈ BIG := tb2 231 rfl rfl
theorem wd_2_232 : (Jvm.Cond.selects "PageHold" ({ cls := "PageHold", name := "truncate", desc := "(II)I" } : Jvm.MethodName) ({ cls := "PageHold", name := "truncate", desc := "(II)I" } : Jvm.MethodName)) ∈ BIG := tb2 232 rfl rfl
theorem wd_2_233 : (Jvm.Cond.code ({ cls := "PageHold", name := "truncate", desc := "(II)I" } : Jvm.MethodName) prog_1_method_6_code (5 : Nat) (Option.some Jvm.ClassFile.FieldType.int)) ∈ BIG := tb2 233 rfl rfl
theorem wd_2_234 : (Jvm.Cond.methodLink "PageHold" (108 : Nat) ({ cls := "PageHold", name := "makeHole", desc := "(I)Z" } : Jvm.MethodName)) ∈ BIG := tb2 234 rfl rfl
theorem wd_2_236 : (Jvm.Cond.instanceMethod ({ cls := "PageHold", name := "makeHole", desc := "(I)Z" } : Jvm.MethodName)) ∈ BIG := tb2 236 rfl rfl
theorem wd_2_237 : (Jvm.Cond.code ({ cls := "PageHold", name := "makeHole", desc := "(I)Z" } : Jvm.MethodName) prog_1_method_32_code (4 : Nat) (Option.some Jvm.ClassFile.FieldType.boolean)) ∈ BIG := tb2 237 rfl rfl
theorem wd_2_238 : (Jvm.Cond.methodLink "PageHold" (285 : Nat) ({ cls := "PageHold$Disk", name := "giveBack", desc := "(I)V" } : Jvm.MethodName)) ∈ BIG := tb2 238 rfl rfl
theorem wd_2_239 : (Jvm.Cond.instanceMethod ({ cls := "PageHold$Disk", name := "giveBack", desc := "(I)V" } : Jvm.MethodName)) ∈ BIG := tb2 239 rfl rfl
theorem wd_3_0 : (Jvm.Cond.selects "PageHold$Disk" ({ cls := "PageHold$Disk", name := "giveBack", desc := "(I)V" } : Jvm.MethodName) ({ cls := "PageHold$Disk", name := "giveBack", desc := "(I)V" } : Jvm.MethodName)) ∈ BIG := tb3 0 rfl rfl
theorem wd_3_1 : (Jvm.Cond.code ({ cls := "PageHold$Disk", name := "giveBack", desc := "(I)V" } : Jvm.MethodName) prog_2_method_5_code (2 : Nat) (Option.none : Option Jvm.ClassFile.FieldType)) ∈ BIG := tb3 1 rfl rfl
theorem wd_3_2 : (Jvm.Cond.methodLink "PageHold" (111 : Nat) ({ cls := "PageHold", name := "cutLastPage", desc := "(II)Z" } : Jvm.MethodName)) ∈ BIG := tb3 2 rfl rfl
theorem wd_3_4 : (Jvm.Cond.instanceMethod ({ cls := "PageHold", name := "cutLastPage", desc := "(II)Z" } : Jvm.MethodName)) ∈ BIG := tb3 4 rfl rfl
theorem wd_3_5 : (Jvm.Cond.code ({ cls := "PageHold", name := "cutLastPage", desc := "(II)Z" } : Jvm.MethodName) prog_1_method_31_code (6 : Nat) (Option.some Jvm.ClassFile.FieldType.boolean)) ∈ BIG := tb3 5 rfl rfl
theorem wd_3_6 : (Jvm.Cond.methodLink "PageHoldLaw" (48 : Nat) ({ cls := "PageHold", name := "punch", desc := "(III)I" } : Jvm.MethodName)) ∈ BIG := tb3 6 rfl rfl
theorem wd_3_7 : (Jvm.Cond.instanceMethod ({ cls := "PageHold", name := "punch", desc := "(III)I" } : Jvm.MethodName)) ∈ BIG := tb3 7 rfl rfl
theorem wd_3_8 : (Jvm.Cond.selects "PageHold" ({ cls := "PageHold", name := "punch", desc := "(III)I" } : Jvm.MethodName) ({ cls := "PageHold", name := "punch", desc := "(III)I" } : Jvm.MethodName)) ∈ BIG := tb3 8 rfl rfl
theorem wd_3_9 : (Jvm.Cond.code ({ cls := "PageHold", name := "punch", desc := "(III)I" } : Jvm.MethodName) prog_1_method_7_code (7 : Nat) (Option.some Jvm.ClassFile.FieldType.int)) ∈ BIG := tb3 9 rfl rfl
theorem wd_3_10 : (Jvm.Cond.methodLink "PageHold" (115 : Nat) ({ cls := "PageHold", name := "isPage", desc := "(I)Z" } : Jvm.MethodName)) ∈ BIG := tb3 10 rfl rfl
theorem wd_3_11 : (Jvm.Cond.static ({ cls := "PageHold", name := "isPage", desc := "(I)Z" } : Jvm.MethodName)) ∈ BIG := tb3 11 rfl rfl
theorem wd_3_12 : (Jvm.Cond.code ({ cls := "PageHold", name := "isPage", desc := "(I)Z" } : Jvm.MethodName) prog_1_method_24_code (1 : Nat) (Option.some Jvm.ClassFile.FieldType.boolean)) ∈ BIG := tb3 12 rfl rfl
theorem wd_3_13 : (Jvm.Cond.methodLink "PageHoldLaw" (52 : Nat) ({ cls := "PageHold", name := "sync", desc := "(I)I" } : Jvm.MethodName)) ∈ BIG := tb3 13 rfl rfl
theorem wd_3_14 : (Jvm.Cond.instanceMethod ({ cls := "PageHold", name := "sync", desc := "(I)I" } : Jvm.MethodName)) ∈ BIG := tb3 14 rfl rfl
theorem wd_3_15 : (Jvm.Cond.selects "PageHold" ({ cls := "PageHold", name := "sync", desc := "(I)I" } : Jvm.MethodName) ({ cls := "PageHold", name := "sync", desc := "(I)I" } : Jvm.MethodName)) ∈ BIG := tb3 15 rfl rfl
theorem wd_3_16 : (Jvm.Cond.code ({ cls := "PageHold", name := "sync", desc := "(I)I" } : Jvm.MethodName) prog_1_method_8_code (5 : Nat) (Option.some Jvm.ClassFile.FieldType.int)) ∈ BIG := tb3 16 rfl rfl
theorem wd_3_17 : (Jvm.Cond.methodLink "PageHoldLaw" (56 : Nat) ({ cls := "PageHold", name := "syncAll", desc := "()I" } : Jvm.MethodName)) ∈ BIG := tb3 17 rfl rfl
theorem wd_3_18 : (Jvm.Cond.instanceMethod ({ cls := "PageHold", name := "syncAll", desc := "()I" } : Jvm.MethodName)) ∈ BIG := tb3 18 rfl rfl
theorem wd_3_19 : (Jvm.Cond.selects "PageHold" ({ cls := "PageHold", name := "syncAll", desc := "()I" } : Jvm.MethodName) ({ cls := "PageHold", name := "syncAll", desc := "()I" } : Jvm.MethodName)) ∈ BIG := tb3 19 rfl rfl
theorem wd_3_20 : (Jvm.Cond.code ({ cls := "PageHold", name := "syncAll", desc := "()I" } : Jvm.MethodName) prog_1_method_9_code (4 : Nat) (Option.some Jvm.ClassFile.FieldType.int)) ∈ BIG := tb3 20 rfl rfl
theorem wd_3_21 : (Jvm.Cond.methodLink "PageHold" (133 : Nat) ({ cls := "PageHold", name := "leastDirtyBlock", desc := "(I)I" } : Jvm.MethodName)) ∈ BIG := tb3 21 rfl rfl
theorem wd_3_23 : (Jvm.Cond.instanceMethod ({ cls := "PageHold", name := "leastDirtyBlock", desc := "(I)I" } : Jvm.MethodName)) ∈ BIG := tb3 23 rfl rfl
theorem wd_3_24 : (Jvm.Cond.code ({ cls := "PageHold", name := "leastDirtyBlock", desc := "(I)I" } : Jvm.MethodName) prog_1_method_42_code (5 : Nat) (Option.some Jvm.ClassFile.FieldType.int)) ∈ BIG := tb3 24 rfl rfl
theorem wd_3_25 : (Jvm.Cond.methodLink "PageHold" (347 : Nat) ({ cls := "PageHold", name := "dirtyBlockIn", desc := "(I)I" } : Jvm.MethodName)) ∈ BIG := tb3 25 rfl rfl
theorem wd_3_27 : (Jvm.Cond.instanceMethod ({ cls := "PageHold", name := "dirtyBlockIn", desc := "(I)I" } : Jvm.MethodName)) ∈ BIG := tb3 27 rfl rfl
theorem wd_3_28 : (Jvm.Cond.code ({ cls := "PageHold", name := "dirtyBlockIn", desc := "(I)I" } : Jvm.MethodName) prog_1_method_44_code (3 : Nat) (Option.some Jvm.ClassFile.FieldType.int)) ∈ BIG := tb3 28 rfl rfl
theorem wd_3_29 : (Jvm.Cond.methodLink "PageHold" (139 : Nat) ({ cls := "PageHold", name := "dirtyFrameAt", desc := "(I)I" } : Jvm.MethodName)) ∈ BIG := tb3 29 rfl rfl
theorem wd_3_31 : (Jvm.Cond.instanceMethod ({ cls := "PageHold", name := "dirtyFrameAt", desc := "(I)I" } : Jvm.MethodName)) ∈ BIG := tb3 31 rfl rfl
theorem wd_3_32 : (Jvm.Cond.code ({ cls := "PageHold", name := "dirtyFrameAt", desc := "(I)I" } : Jvm.MethodName) prog_1_method_43_code (3 : Nat) (Option.some Jvm.ClassFile.FieldType.int)) ∈ BIG := tb3 32 rfl rfl
theorem wd_3_33 : (Jvm.Cond.methodLink "PageHoldLaw" (61 : Nat) ({ cls := "PageHold", name := "tick", desc := "(I)I" } : Jvm.MethodName)) ∈ BIG := tb3 33 rfl rfl
theorem wd_3_34 : (Jvm.Cond.instanceMethod ({ cls := "PageHold", name := "tick", desc := "(I)I" } : Jvm.MethodName)) ∈ BIG := tb3 34 rfl rfl
theorem wd_3_35 : (Jvm.Cond.selects "PageHold" ({ cls := "PageHold", name := "tick", desc := "(I)I" } : Jvm.MethodName) ({ cls := "PageHold", name := "tick", desc := "(I)I" } : Jvm.MethodName)) ∈ BIG := tb3 35 rfl rfl
theorem wd_3_36 : (Jvm.Cond.code ({ cls := "PageHold", name := "tick", desc := "(I)I" } : Jvm.MethodName) prog_1_method_10_code (4 : Nat) (Option.some Jvm.ClassFile.FieldType.int)) ∈ BIG := tb3 36 rfl rfl
theorem wd_3_37 : (Jvm.Cond.methodLink "PageHold" (142 : Nat) ({ cls := "PageHold", name := "writeAged", desc := "()I" } : Jvm.MethodName)) ∈ BIG := tb3 37 rfl rfl
theorem wd_3_39 : (Jvm.Cond.instanceMethod ({ cls := "PageHold", name := "writeAged", desc := "()I" } : Jvm.MethodName)) ∈ BIG := tb3 39 rfl rfl
theorem wd_3_40 : (Jvm.Cond.code ({ cls := "PageHold", name := "writeAged", desc := "()I" } : Jvm.MethodName) prog_1_method_41_code (6 : Nat) (Option.some Jvm.ClassFile.FieldType.int)) ∈ BIG := tb3 40 rfl rfl
theorem wd_3_41 : (Jvm.Cond.methodLink "PageHoldLaw" (65 : Nat) ({ cls := "PageHold", name := "drop", desc := "()I" } : Jvm.MethodName)) ∈ BIG := tb3 41 rfl rfl
theorem wd_3_42 : (Jvm.Cond.instanceMethod ({ cls := "PageHold", name := "drop", desc := "()I" } : Jvm.MethodName)) ∈ BIG := tb3 42 rfl rfl
theorem wd_3_43 : (Jvm.Cond.selects "PageHold" ({ cls := "PageHold", name := "drop", desc := "()I" } : Jvm.MethodName) ({ cls := "PageHold", name := "drop", desc := "()I" } : Jvm.MethodName)) ∈ BIG := tb3 43 rfl rfl
theorem wd_3_44 : (Jvm.Cond.code ({ cls := "PageHold", name := "drop", desc := "()I" } : Jvm.MethodName) prog_1_method_11_code (4 : Nat) (Option.some Jvm.ClassFile.FieldType.int)) ∈ BIG := tb3 44 rfl rfl
theorem wd_3_45 : (Jvm.Cond.methodLink "PageHoldLaw" (69 : Nat) ({ cls := "PageHold", name := "crash", desc := "()I" } : Jvm.MethodName)) ∈ BIG := tb3 45 rfl rfl
theorem wd_3_46 : (Jvm.Cond.instanceMethod ({ cls := "PageHold", name := "crash", desc := "()I" } : Jvm.MethodName)) ∈ BIG := tb3 46 rfl rfl
theorem wd_3_47 : (Jvm.Cond.selects "PageHold" ({ cls := "PageHold", name := "crash", desc := "()I" } : Jvm.MethodName) ({ cls := "PageHold", name := "crash", desc := "()I" } : Jvm.MethodName)) ∈ BIG := tb3 47 rfl rfl
theorem wd_3_48 : (Jvm.Cond.code ({ cls := "PageHold", name := "crash", desc := "()I" } : Jvm.MethodName) prog_1_method_12_code (3 : Nat) (Option.some Jvm.ClassFile.FieldType.int)) ∈ BIG := tb3 48 rfl rfl
theorem wd_3_49 : (Jvm.Cond.methodLink "PageHold" (159 : Nat) ({ cls := "PageHold$Shadows", name := "forgetAll", desc := "()V" } : Jvm.MethodName)) ∈ BIG := tb3 49 rfl rfl
theorem wd_3_50 : (Jvm.Cond.instanceMethod ({ cls := "PageHold$Shadows", name := "forgetAll", desc := "()V" } : Jvm.MethodName)) ∈ BIG := tb3 50 rfl rfl
theorem wd_3_51 : (Jvm.Cond.selects "PageHold$Shadows" ({ cls := "PageHold$Shadows", name := "forgetAll", desc := "()V" } : Jvm.MethodName) ({ cls := "PageHold$Shadows", name := "forgetAll", desc := "()V" } : Jvm.MethodName)) ∈ BIG := tb3 51 rfl rfl
theorem wd_3_52 : (Jvm.Cond.code ({ cls := "PageHold$Shadows", name := "forgetAll", desc := "()V" } : Jvm.MethodName) prog_6_method_6_code (1 : Nat) (Option.none : Option Jvm.ClassFile.FieldType)) ∈ BIG := tb3 52 rfl rfl
theorem wd_3_53 : (Jvm.Cond.methodLink "PageHold" (162 : Nat) ({ cls := "PageHold$Files", name := "reset", desc := "()V" } : Jvm.MethodName)) ∈ BIG := tb3 53 rfl rfl
theorem wd_3_54 : (Jvm.Cond.instanceMethod ({ cls := "PageHold$Files", name := "reset", desc := "()V" } : Jvm.MethodName)) ∈ BIG := tb3 54 rfl rfl
theorem wd_3_55 : (Jvm.Cond.selects "PageHold$Files" ({ cls := "PageHold$Files", name := "reset", desc := "()V" } : Jvm.MethodName) ({ cls := "PageHold$Files", name := "reset", desc := "()V" } : Jvm.MethodName)) ∈ BIG := tb3 55 rfl rfl
theorem wd_3_56 : (Jvm.Cond.code ({ cls := "PageHold$Files", name := "reset", desc := "()V" } : Jvm.MethodName) prog_3_method_2_code (1 : Nat) (Option.none : Option Jvm.ClassFile.FieldType)) ∈ BIG := tb3 56 rfl rfl
theorem wd_3_57 : (Jvm.Cond.methodLink "PageHoldLaw" (73 : Nat) ({ cls := "PageHold", name := "fail", desc := "(IZ)Z" } : Jvm.MethodName)) ∈ BIG := tb3 57 rfl rfl
theorem wd_3_58 : (Jvm.Cond.instanceMethod ({ cls := "PageHold", name := "fail", desc := "(IZ)Z" } : Jvm.MethodName)) ∈ BIG := tb3 58 rfl rfl
theorem wd_3_59 : (Jvm.Cond.selects "PageHold" ({ cls := "PageHold", name := "fail", desc := "(IZ)Z" } : Jvm.MethodName) ({ cls := "PageHold", name := "fail", desc := "(IZ)Z" } : Jvm.MethodName)) ∈ BIG := tb3 59 rfl rfl
theorem wd_3_60 : (Jvm.Cond.code ({ cls := "PageHold", name := "fail", desc := "(IZ)Z" } : Jvm.MethodName) prog_1_method_13_code (3 : Nat) (Option.some Jvm.ClassFile.FieldType.boolean)) ∈ BIG := tb3 60 rfl rfl
theorem wd_3_61 : (Jvm.Cond.methodLink "PageHold" (165 : Nat) ({ cls := "PageHold$Disk", name := "has", desc := "(I)Z" } : Jvm.MethodName)) ∈ BIG := tb3 61 rfl rfl
theorem wd_3_62 : (Jvm.Cond.methodLink "PageHoldLaw" (78 : Nat) ({ cls := "PageHold", name := "pin", desc := "(IIZ)Z" } : Jvm.MethodName)) ∈ BIG := tb3 62 rfl rfl
theorem wd_3_63 : (Jvm.Cond.instanceMethod ({ cls := "PageHold", name := "pin", desc := "(IIZ)Z" } : Jvm.MethodName)) ∈ BIG := tb3 63 rfl rfl
theorem wd_3_64 : (Jvm.Cond.selects "PageHold" ({ cls := "PageHold", name := "pin", desc := "(IIZ)Z" } : Jvm.MethodName) ({ cls := "PageHold", name := "pin", desc := "(IIZ)Z" } : Jvm.MethodName)) ∈ BIG := tb3 64 rfl rfl
theorem wd_3_65 : (Jvm.Cond.code ({ cls := "PageHold", name := "pin", desc := "(IIZ)Z" } : Jvm.MethodName) prog_1_method_14_code (8 : Nat) (Option.some Jvm.ClassFile.FieldType.boolean)) ∈ BIG := tb3 65 rfl rfl
theorem wd_3_66 : (Jvm.Cond.methodLink "PageHold" (171 : Nat) ({ cls := "PageHold$Frames", name := "setPinned", desc := "(IZ)V" } : Jvm.MethodName)) ∈ BIG := tb3 66 rfl rfl
theorem wd_3_67 : (Jvm.Cond.methodLink "PageHoldLaw" (83 : Nat) ({ cls := "PageHold", name := "size", desc := "(I)I" } : Jvm.MethodName)) ∈ BIG := tb3 67 rfl rfl
theorem wd_3_68 : (Jvm.Cond.instanceMethod ({ cls := "PageHold", name := "size", desc := "(I)I" } : Jvm.MethodName)) ∈ BIG := tb3 68 rfl rfl
theorem wd_3_69 : (Jvm.Cond.selects "PageHold" ({ cls := "PageHold", name := "size", desc := "(I)I" } : Jvm.MethodName) ({ cls := "PageHold", name := "size", desc := "(I)I" } : Jvm.MethodName)) ∈ BIG := tb3 69 rfl rfl
theorem wd_3_70 : (Jvm.Cond.code ({ cls := "PageHold", name := "size", desc := "(I)I" } : Jvm.MethodName) prog_1_method_15_code (2 : Nat) (Option.some Jvm.ClassFile.FieldType.int)) ∈ BIG := tb3 70 rfl rfl
theorem wd_3_71 : (Jvm.Cond.methodLink "PageHoldLaw" (87 : Nat) ({ cls := "PageHold", name := "page", desc := "(III)I" } : Jvm.MethodName)) ∈ BIG := tb3 71 rfl rfl
theorem wd_3_72 : (Jvm.Cond.instanceMethod ({ cls := "PageHold", name := "page", desc := "(III)I" } : Jvm.MethodName)) ∈ BIG := tb3 72 rfl rfl
theorem wd_3_73 : (Jvm.Cond.selects "PageHold" ({ cls := "PageHold", name := "page", desc := "(III)I" } : Jvm.MethodName) ({ cls := "PageHold", name := "page", desc := "(III)I" } : Jvm.MethodName)) ∈ BIG := tb3 73 rfl rfl
theorem wd_3_74 : (Jvm.Cond.code ({ cls := "PageHold", name := "page", desc := "(III)I" } : Jvm.MethodName) prog_1_method_16_code (6 : Nat) (Option.some Jvm.ClassFile.FieldType.int)) ∈ BIG := tb3 74 rfl rfl
theorem wd_3_75 : (Jvm.Cond.methodLink "PageHold" (184 : Nat) ({ cls := "PageHold$Shadows", name := "of", desc := "(I)I" } : Jvm.MethodName)) ∈ BIG := tb3 75 rfl rfl
theorem wd_3_76 : (Jvm.Cond.methodLink "PageHold" (187 : Nat) ({ cls := "PageHold$Frames", name := "placeOf", desc := "(I)I" } : Jvm.MethodName)) ∈ BIG := tb3 76 rfl rfl
theorem wd_3_77 : (Jvm.Cond.instanceMethod ({ cls := "PageHold$Frames", name := "placeOf", desc := "(I)I" } : Jvm.MethodName)) ∈ BIG := tb3 77 rfl rfl
theorem wd_3_78 : (Jvm.Cond.selects "PageHold$Frames" ({ cls := "PageHold$Frames", name := "placeOf", desc := "(I)I" } : Jvm.MethodName) ({ cls := "PageHold$Frames", name := "placeOf", desc := "(I)I" } : Jvm.MethodName)) ∈ BIG := tb3 78 rfl rfl
theorem wd_3_79 : (Jvm.Cond.code ({ cls := "PageHold$Frames", name := "placeOf", desc := "(I)I" } : Jvm.MethodName) prog_4_method_10_code (2 : Nat) (Option.some Jvm.ClassFile.FieldType.int)) ∈ BIG := tb3 79 rfl rfl
theorem wd_3_80 : (Jvm.Cond.methodLink "PageHold$Frames" (99 : Nat) ({ cls := "PageHold$Order", name := "placeOf", desc := "(I)I" } : Jvm.MethodName)) ∈ BIG := tb3 80 rfl rfl
theorem wd_3_81 : (Jvm.Cond.methodLink "PageHoldLaw" (91 : Nat) ({ cls := "PageHold", name := "next", desc := "(III)I" } : Jvm.MethodName)) ∈ BIG := tb3 81 rfl rfl
theorem wd_3_82 : (Jvm.Cond.instanceMethod ({ cls := "PageHold", name := "next", desc := "(III)I" } : Jvm.MethodName)) ∈ BIG := tb3 82 rfl rfl
theorem wd_3_83 : (Jvm.Cond.selects "PageHold" ({ cls := "PageHold", name := "next", desc := "(III)I" } : Jvm.MethodName) ({ cls := "PageHold", name := "next", desc := "(III)I" } : Jvm.MethodName)) ∈ BIG := tb3 83 rfl rfl
theorem wd_3_84 : (Jvm.Cond.code ({ cls := "PageHold", name := "next", desc := "(III)I" } : Jvm.MethodName) prog_1_method_17_code (5 : Nat) (Option.some Jvm.ClassFile.FieldType.int)) ∈ BIG := tb3 84 rfl rfl
theorem wd_3_85 : (Jvm.Cond.methodLink "PageHold" (196 : Nat) ({ cls := "PageHold", name := "isMarked", desc := "(II)Z" } : Jvm.MethodName)) ∈ BIG := tb3 85 rfl rfl
theorem wd_3_87 : (Jvm.Cond.instanceMethod ({ cls := "PageHold", name := "isMarked", desc := "(II)Z" } : Jvm.MethodName)) ∈ BIG := tb3 87 rfl rfl
theorem wd_3_88 : (Jvm.Cond.code ({ cls := "PageHold", name := "isMarked", desc := "(II)Z" } : Jvm.MethodName) prog_1_method_45_code (4 : Nat) (Option.some Jvm.ClassFile.FieldType.boolean)) ∈ BIG := tb3 88 rfl rfl
theorem wd_3_89 : (Jvm.Cond.methodLink "PageHoldLaw" (95 : Nat) ({ cls := "PageHold", name := "tree", desc := "(II)I" } : Jvm.MethodName)) ∈ BIG := tb3 89 rfl rfl
theorem wd_3_90 : (Jvm.Cond.instanceMethod ({ cls := "PageHold", name := "tree", desc := "(II)I" } : Jvm.MethodName)) ∈ BIG := tb3 90 rfl rfl
theorem wd_3_91 : (Jvm.Cond.selects "PageHold" ({ cls := "PageHold", name := "tree", desc := "(II)I" } : Jvm.MethodName) ({ cls := "PageHold", name := "tree", desc := "(II)I" } : Jvm.MethodName)) ∈ BIG := tb3 91 rfl rfl
theorem wd_3_92 : (Jvm.Cond.code ({ cls := "PageHold", name := "tree", desc := "(II)I" } : Jvm.MethodName) prog_1_method_18_code (3 : Nat) (Option.some Jvm.ClassFile.FieldType.int)) ∈ BIG := tb3 92 rfl rfl
theorem wd_3_93 : (Jvm.Cond.methodLink "PageHold" (199 : Nat) ({ cls := "PageHold", name := "treeHeight", desc := "(I)I" } : Jvm.MethodName)) ∈ BIG := tb3 93 rfl rfl
theorem wd_3_95 : (Jvm.Cond.instanceMethod ({ cls := "PageHold", name := "treeHeight", desc := "(I)I" } : Jvm.MethodName)) ∈ BIG := tb3 95 rfl rfl
theorem wd_3_96 : (Jvm.Cond.code ({ cls := "PageHold", name := "treeHeight", desc := "(I)I" } : Jvm.MethodName) prog_1_method_48_code (3 : Nat) (Option.some Jvm.ClassFile.FieldType.int)) ∈ BIG := tb3 96 rfl rfl
theorem wd_3_97 : (Jvm.Cond.methodLink "PageHold" (350 : Nat) ({ cls := "PageHold", name := "isEntry", desc := "(I)Z" } : Jvm.MethodName)) ∈ BIG := tb3 97 rfl rfl
theorem wd_3_99 : (Jvm.Cond.instanceMethod ({ cls := "PageHold", name := "isEntry", desc := "(I)Z" } : Jvm.MethodName)) ∈ BIG := tb3 99 rfl rfl
theorem wd_3_100 : (Jvm.Cond.code ({ cls := "PageHold", name := "isEntry", desc := "(I)Z" } : Jvm.MethodName) prog_1_method_46_code (2 : Nat) (Option.some Jvm.ClassFile.FieldType.boolean)) ∈ BIG := tb3 100 rfl rfl
theorem wd_3_101 : (Jvm.Cond.methodLink "PageHold" (202 : Nat) ({ cls := "PageHold", name := "treeNodes", desc := "(I)I" } : Jvm.MethodName)) ∈ BIG := tb3 101 rfl rfl
theorem wd_3_103 : (Jvm.Cond.instanceMethod ({ cls := "PageHold", name := "treeNodes", desc := "(I)I" } : Jvm.MethodName)) ∈ BIG := tb3 103 rfl rfl
theorem wd_3_104 : (Jvm.Cond.code ({ cls := "PageHold", name := "treeNodes", desc := "(I)I" } : Jvm.MethodName) prog_1_method_49_code (8 : Nat) (Option.some Jvm.ClassFile.FieldType.int)) ∈ BIG := tb3 104 rfl rfl
theorem wd_3_105 : (Jvm.Cond.methodLink "PageHold" (205 : Nat) ({ cls := "PageHold", name := "treeEntries", desc := "(I)I" } : Jvm.MethodName)) ∈ BIG := tb3 105 rfl rfl
theorem wd_3_107 : (Jvm.Cond.instanceMethod ({ cls := "PageHold", name := "treeEntries", desc := "(I)I" } : Jvm.MethodName)) ∈ BIG := tb3 107 rfl rfl
theorem wd_3_108 : (Jvm.Cond.code ({ cls := "PageHold", name := "treeEntries", desc := "(I)I" } : Jvm.MethodName) prog_1_method_47_code (4 : Nat) (Option.some Jvm.ClassFile.FieldType.int)) ∈ BIG := tb3 108 rfl rfl
theorem wd_3_109 : (Jvm.Cond.methodLink "PageHoldLaw" (99 : Nat) ({ cls := "PageHold", name := "listed", desc := "(ZI)I" } : Jvm.MethodName)) ∈ BIG := tb3 109 rfl rfl
theorem wd_3_110 : (Jvm.Cond.instanceMethod ({ cls := "PageHold", name := "listed", desc := "(ZI)I" } : Jvm.MethodName)) ∈ BIG := tb3 110 rfl rfl
theorem wd_3_111 : (Jvm.Cond.selects "PageHold" ({ cls := "PageHold", name := "listed", desc := "(ZI)I" } : Jvm.MethodName) ({ cls := "PageHold", name := "listed", desc := "(ZI)I" } : Jvm.MethodName)) ∈ BIG := tb3 111 rfl rfl
theorem wd_3_112 : (Jvm.Cond.code ({ cls := "PageHold", name := "listed", desc := "(ZI)I" } : Jvm.MethodName) prog_1_method_19_code (4 : Nat) (Option.some Jvm.ClassFile.FieldType.int)) ∈ BIG := tb3 112 rfl rfl
theorem wd_3_113 : (Jvm.Cond.methodLink "PageHoldLaw" (104 : Nat) ({ cls := "PageHold", name := "disk", desc := "(II)I" } : Jvm.MethodName)) ∈ BIG := tb3 113 rfl rfl
theorem wd_3_114 : (Jvm.Cond.instanceMethod ({ cls := "PageHold", name := "disk", desc := "(II)I" } : Jvm.MethodName)) ∈ BIG := tb3 114 rfl rfl
theorem wd_3_115 : (Jvm.Cond.selects "PageHold" ({ cls := "PageHold", name := "disk", desc := "(II)I" } : Jvm.MethodName) ({ cls := "PageHold", name := "disk", desc := "(II)I" } : Jvm.MethodName)) ∈ BIG := tb3 115 rfl rfl
theorem wd_3_116 : (Jvm.Cond.code ({ cls := "PageHold", name := "disk", desc := "(II)I" } : Jvm.MethodName) prog_1_method_20_code (3 : Nat) (Option.some Jvm.ClassFile.FieldType.int)) ∈ BIG := tb3 116 rfl rfl
theorem wd_3_117 : (Jvm.Cond.methodLink "PageHoldLaw" (108 : Nat) ({ cls := "PageHold", name := "run", desc := "(II)I" } : Jvm.MethodName)) ∈ BIG := tb3 117 rfl rfl
theorem wd_3_118 : (Jvm.Cond.instanceMethod ({ cls := "PageHold", name := "run", desc := "(II)I" } : Jvm.MethodName)) ∈ BIG := tb3 118 rfl rfl
theorem wd_3_119 : (Jvm.Cond.selects "PageHold" ({ cls := "PageHold", name := "run", desc := "(II)I" } : Jvm.MethodName) ({ cls := "PageHold", name := "run", desc := "(II)I" } : Jvm.MethodName)) ∈ BIG := tb3 119 rfl rfl
theorem wd_3_120 : (Jvm.Cond.code ({ cls := "PageHold", name := "run", desc := "(II)I" } : Jvm.MethodName) prog_1_method_21_code (3 : Nat) (Option.some Jvm.ClassFile.FieldType.int)) ∈ BIG := tb3 120 rfl rfl
theorem wd_3_121 : (Jvm.Cond.methodLink "PageHoldLaw" (112 : Nat) ({ cls := "PageHold", name := "told", desc := "(I)I" } : Jvm.MethodName)) ∈ BIG := tb3 121 rfl rfl
theorem wd_3_122 : (Jvm.Cond.instanceMethod ({ cls := "PageHold", name := "told", desc := "(I)I" } : Jvm.MethodName)) ∈ BIG := tb3 122 rfl rfl
theorem wd_3_123 : (Jvm.Cond.selects "PageHold" ({ cls := "PageHold", name := "told", desc := "(I)I" } : Jvm.MethodName) ({ cls := "PageHold", name := "told", desc := "(I)I" } : Jvm.MethodName)) ∈ BIG := tb3 123 rfl rfl
theorem wd_3_124 : (Jvm.Cond.code ({ cls := "PageHold", name := "told", desc := "(I)I" } : Jvm.MethodName) prog_1_method_22_code (2 : Nat) (Option.some Jvm.ClassFile.FieldType.int)) ∈ BIG := tb3 124 rfl rfl
theorem wd_3_125 : (Jvm.Cond.methodLink "PageHold" (260 : Nat) ({ cls := "PageHold$Files", name := "withError", desc := "()I" } : Jvm.MethodName)) ∈ BIG := tb3 125 rfl rfl
theorem wd_3_126 : (Jvm.Cond.instanceMethod ({ cls := "PageHold$Files", name := "withError", desc := "()I" } : Jvm.MethodName)) ∈ BIG := tb3 126 rfl rfl
theorem wd_3_127 : (Jvm.Cond.selects "PageHold$Files" ({ cls := "PageHold$Files", name := "withError", desc := "()I" } : Jvm.MethodName) ({ cls := "PageHold$Files", name := "withError", desc := "()I" } : Jvm.MethodName)) ∈ BIG := tb3 127 rfl rfl
theorem wd_3_128 : (Jvm.Cond.code ({ cls := "PageHold$Files", name := "withError", desc := "()I" } : Jvm.MethodName) prog_3_method_4_code (6 : Nat) (Option.some Jvm.ClassFile.FieldType.int)) ∈ BIG := tb3 128 rfl rfl
theorem wd_3_129 : (Jvm.Cond.methodLink "PageHoldLaw" (9 : Nat) ({ cls := "PageHoldLaw", name := "cell", desc := "([II)I" } : Jvm.MethodName)) ∈ BIG := tb3 129 rfl rfl
theorem wd_3_130 : (Jvm.Cond.static ({ cls := "PageHoldLaw", name := "cell", desc := "([II)I" } : Jvm.MethodName)) ∈ BIG := tb3 130 rfl rfl
theorem wd_3_131 : (Jvm.Cond.code ({ cls := "PageHoldLaw", name := "cell", desc := "([II)I" } : Jvm.MethodName) method_2_code (2 : Nat) (Option.some Jvm.ClassFile.FieldType.int)) ∈ BIG := tb3 131 rfl rfl
theorem wd_3_132 : (Jvm.Cond.classLink "PageHoldLaw" (18 : Nat) "PageHoldModel") ∈ BIG := tb3 132 rfl rfl
theorem wd_3_133 : (Jvm.Cond.instantiable "PageHoldModel" (35 : Nat)) ∈ BIG := tb3 133 rfl rfl
theorem wd_3_134 : (Jvm.Cond.methodLink "PageHoldLaw" (20 : Nat) ({ cls := "PageHoldModel", name := "<init>", desc := "(II)V" } : Jvm.MethodName)) ∈ BIG := tb3 134 rfl rfl
theorem wd_3_135 : (Jvm.Cond.instanceMethod ({ cls := "PageHoldModel", name := "<init>", desc := "(II)V" } : Jvm.MethodName)) ∈ BIG := tb3 135 rfl rfl
theorem wd_3_136 : (Jvm.Cond.code ({ cls := "PageHoldModel", name := "<init>", desc := "(II)V" } : Jvm.MethodName) prog_9_method_1_code (4 : Nat) (Option.none : Option Jvm.ClassFile.FieldType)) ∈ BIG := tb3 136 rfl rfl
theorem wd_3_137 : (Jvm.Cond.methodLink "PageHoldModel" (1 : Nat) ({ cls := "java/lang/Object", name := "<init>", desc := "()V" } : Jvm.MethodName)) ∈ BIG := tb3 137 rfl rfl
theorem wd_3_138 : (Jvm.Cond.constant "PageHoldModel" (57 : Nat) (32768 : Int32)) ∈ BIG := tb3 138 rfl rfl
theorem wd_3_139 : (Jvm.Cond.fieldLink "PageHoldModel" (82 : Nat) "PageHoldModel" "frames" "I") ∈ BIG := tb3 139 rfl rfl
theorem wd_3_140 : (Jvm.Cond.fieldLink "PageHoldModel" (86 : Nat) "PageHoldModel" "blocks" "I") ∈ BIG := tb3 140 rfl rfl
theorem wd_3_141 : (Jvm.Cond.fieldLink "PageHoldModel" (7 : Nat) "PageHoldModel" "sizes" "[I") ∈ BIG := tb3 141 rfl rfl
theorem wd_3_142 : (Jvm.Cond.fieldLink "PageHoldModel" (13 : Nat) "PageHoldModel" "windows" "[I") ∈ BIG := tb3 142 rfl rfl
theorem wd_3_143 : (Jvm.Cond.fieldLink "PageHoldModel" (16 : Nat) "PageHoldModel" "nexts" "[I") ∈ BIG := tb3 143 rfl rfl
theorem wd_3_144 : (Jvm.Cond.fieldLink "PageHoldModel" (19 : Nat) "PageHoldModel" "errors" "[I") ∈ BIG := tb3 144 rfl rfl
theorem wd_3_145 : (Jvm.Cond.fieldLink "PageHoldModel" (22 : Nat) "PageHoldModel" "frameOf" "[I") ∈ BIG := tb3 145 rfl rfl
theorem wd_3_146 : (Jvm.Cond.fieldLink "PageHoldModel" (25 : Nat) "PageHoldModel" "blockOf" "[I") ∈ BIG := tb3 146 rfl rfl
theorem wd_3_147 : (Jvm.Cond.fieldLink "PageHoldModel" (28 : Nat) "PageHoldModel" "since" "[I") ∈ BIG := tb3 147 rfl rfl
theorem wd_3_148 : (Jvm.Cond.fieldLink "PageHoldModel" (31 : Nat) "PageHoldModel" "shadow" "[I") ∈ BIG := tb3 148 rfl rfl
theorem wd_3_149 : (Jvm.Cond.fieldLink "PageHoldModel" (34 : Nat) "PageHoldModel" "referenced" "[Z") ∈ BIG := tb3 149 rfl rfl
theorem wd_3_150 : (Jvm.Cond.fieldLink "PageHoldModel" (38 : Nat) "PageHoldModel" "pinned" "[Z") ∈ BIG := tb3 150 rfl rfl
theorem wd_3_151 : (Jvm.Cond.fieldLink "PageHoldModel" (41 : Nat) "PageHoldModel" "isActive" "[Z") ∈ BIG := tb3 151 rfl rfl
theorem wd_3_152 : (Jvm.Cond.fieldLink "PageHoldModel" (44 : Nat) "PageHoldModel" "active" "[I") ∈ BIG := tb3 152 rfl rfl
theorem wd_3_153 : (Jvm.Cond.fieldLink "PageHoldModel" (47 : Nat) "PageHoldModel" "inactive" "[I") ∈ BIG := tb3 153 rfl rfl
theorem wd_3_154 : (Jvm.Cond.fieldLink "PageHoldModel" (102 : Nat) "PageHoldModel" "actives" "I") ∈ BIG := tb3 154 rfl rfl
theorem wd_3_155 : (Jvm.Cond.fieldLink "PageHoldModel" (105 : Nat) "PageHoldModel" "inactives" "I") ∈ BIG := tb3 155 rfl rfl
theorem wd_3_156 : (Jvm.Cond.fieldLink "PageHoldModel" (50 : Nat) "PageHoldModel" "used" "[Z") ∈ BIG := tb3 156 rfl rfl
theorem wd_3_157 : (Jvm.Cond.fieldLink "PageHoldModel" (53 : Nat) "PageHoldModel" "bytes" "[B") ∈ BIG := tb3 157 rfl rfl
theorem wd_3_158 : (Jvm.Cond.fieldLink "PageHoldModel" (58 : Nat) "PageHoldModel" "disk" "[B") ∈ BIG := tb3 158 rfl rfl
theorem wd_3_159 : (Jvm.Cond.fieldLink "PageHoldModel" (61 : Nat) "PageHoldModel" "taken" "[Z") ∈ BIG := tb3 159 rfl rfl
theorem wd_3_160 : (Jvm.Cond.fieldLink "PageHoldModel" (64 : Nat) "PageHoldModel" "fails" "[Z") ∈ BIG := tb3 160 rfl rfl
theorem wd_3_161 : (Jvm.Cond.fieldLink "PageHoldModel" (67 : Nat) "PageHoldModel" "hand" "[B") ∈ BIG := tb3 161 rfl rfl
theorem wd_3_162 : (Jvm.Cond.fieldLink "PageHoldModel" (174 : Nat) "PageHoldModel" "hands" "I") ∈ BIG := tb3 162 rfl rfl
theorem wd_3_163 : (Jvm.Cond.fieldLink "PageHoldModel" (186 : Nat) "PageHoldModel" "time" "I") ∈ BIG := tb3 163 rfl rfl
theorem wd_3_164 : (Jvm.Cond.fieldLink "PageHoldModel" (126 : Nat) "PageHoldModel" "evicted" "I") ∈ BIG := tb3 164 rfl rfl
theorem wd_3_165 : (Jvm.Cond.fieldLink "PageHoldModel" (120 : Nat) "PageHoldModel" "shadows" "I") ∈ BIG := tb3 165 rfl rfl
theorem wd_3_166 : (Jvm.Cond.fieldLink "PageHoldModel" (96 : Nat) "PageHoldModel" "reads" "I") ∈ BIG := tb3 166 rfl rfl
theorem wd_3_167 : (Jvm.Cond.fieldLink "PageHoldModel" (99 : Nat) "PageHoldModel" "writes" "I") ∈ BIG := tb3 167 rfl rfl
theorem wd_3_168 : (Jvm.Cond.fieldLink "PageHoldModel" (70 : Nat) "PageHoldModel" "runKind" "[I") ∈ BIG := tb3 168 rfl rfl
theorem wd_3_169 : (Jvm.Cond.fieldLink "PageHoldModel" (73 : Nat) "PageHoldModel" "runFirst" "[I") ∈ BIG := tb3 169 rfl rfl
theorem wd_3_170 : (Jvm.Cond.fieldLink "PageHoldModel" (76 : Nat) "PageHoldModel" "runMany" "[I") ∈ BIG := tb3 170 rfl rfl
theorem wd_3_171 : (Jvm.Cond.fieldLink "PageHoldModel" (93 : Nat) "PageHoldModel" "runs" "I") ∈ BIG := tb3 171 rfl rfl
theorem wd_3_172 : (Jvm.Cond.fieldLink "PageHoldModel" (89 : Nat) "PageHoldModel" "isRecorded" "Z") ∈ BIG := tb3 172 rfl rfl
theorem wd_3_173 : (Jvm.Cond.fieldLink "PageHoldModel" (79 : Nat) "PageHoldModel" "tried" "[Z") ∈ BIG := tb3 173 rfl rfl
theorem wd_4_5 : (Jvm.Cond.arrayClass Jvm.ClassFile.FieldType.byte) ∈ BIG := tb4 5 rfl rfl
theorem wd_4_6 : (Jvm.Cond.methodLink "PageHoldLaw" (25 : Nat) ({ cls := "PageHoldModel", name := "read", desc := "(III)I" } : Jvm.MethodName)) ∈ BIG := tb4 6 rfl rfl
theorem wd_4_7 : (Jvm.Cond.instanceMethod ({ cls := "PageHoldModel", name := "read", desc := "(III)I" } : Jvm.MethodName)) ∈ BIG := tb4 7 rfl rfl
theorem wd_4_8 : (Jvm.Cond.selects "PageHoldModel" ({ cls := "PageHoldModel", name := "read", desc := "(III)I" } : Jvm.MethodName) ({ cls := "PageHoldModel", name := "read", desc := "(III)I" } : Jvm.MethodName)) ∈ BIG := tb4 8 rfl rfl
theorem wd_4_9 : (Jvm.Cond.code ({ cls := "PageHoldModel", name := "read", desc := "(III)I" } : Jvm.MethodName) prog_9_method_23_code (10 : Nat) (Option.some Jvm.ClassFile.FieldType.int)) ∈ BIG := tb4 9 rfl rfl
theorem wd_4_10 : (Jvm.Cond.methodLink "PageHoldModel" (168 : Nat) ({ cls := "PageHoldModel", name := "isFile", desc := "(I)Z" } : Jvm.MethodName)) ∈ BIG := tb4 10 rfl rfl
theorem wd_4_11 : (Jvm.Cond.static ({ cls := "PageHoldModel", name := "isFile", desc := "(I)Z" } : Jvm.MethodName)) ∈ BIG := tb4 11 rfl rfl
theorem wd_4_12 : (Jvm.Cond.code ({ cls := "PageHoldModel", name := "isFile", desc := "(I)Z" } : Jvm.MethodName) prog_9_method_3_code (1 : Nat) (Option.some Jvm.ClassFile.FieldType.boolean)) ∈ BIG := tb4 12 rfl rfl
theorem wd_4_13 : (Jvm.Cond.methodLink "PageHoldModel" (159 : Nat) ({ cls := "PageHoldModel", name := "isIn", desc := "(I)Z" } : Jvm.MethodName)) ∈ BIG := tb4 13 rfl rfl
theorem wd_4_15 : (Jvm.Cond.instanceMethod ({ cls := "PageHoldModel", name := "isIn", desc := "(I)Z" } : Jvm.MethodName)) ∈ BIG := tb4 15 rfl rfl
theorem wd_4_16 : (Jvm.Cond.code ({ cls := "PageHoldModel", name := "isIn", desc := "(I)Z" } : Jvm.MethodName) prog_9_method_5_code (2 : Nat) (Option.some Jvm.ClassFile.FieldType.boolean)) ∈ BIG := tb4 16 rfl rfl
theorem wd_4_17 : (Jvm.Cond.methodLink "PageHoldModel" (171 : Nat) ({ cls := "PageHoldModel", name := "touch", desc := "(I)Z" } : Jvm.MethodName)) ∈ BIG := tb4 17 rfl rfl
theorem wd_4_19 : (Jvm.Cond.instanceMethod ({ cls := "PageHoldModel", name := "touch", desc := "(I)Z" } : Jvm.MethodName)) ∈ BIG := tb4 19 rfl rfl
theorem wd_4_20 : (Jvm.Cond.code ({ cls := "PageHoldModel", name := "touch", desc := "(I)Z" } : Jvm.MethodName) prog_9_method_21_code (2 : Nat) (Option.some Jvm.ClassFile.FieldType.boolean)) ∈ BIG := tb4 20 rfl rfl
theorem wd_4_21 : (Jvm.Cond.methodLink "PageHoldModel" (162 : Nat) ({ cls := "PageHoldModel", name := "seenAgain", desc := "(I)V" } : Jvm.MethodName)) ∈ BIG := tb4 21 rfl rfl
theorem wd_4_23 : (Jvm.Cond.instanceMethod ({ cls := "PageHoldModel", name := "seenAgain", desc := "(I)V" } : Jvm.MethodName)) ∈ BIG := tb4 23 rfl rfl
theorem wd_4_24 : (Jvm.Cond.code ({ cls := "PageHoldModel", name := "seenAgain", desc := "(I)V" } : Jvm.MethodName) prog_9_method_20_code (2 : Nat) (Option.none : Option Jvm.ClassFile.FieldType)) ∈ BIG := tb4 24 rfl rfl
theorem wd_4_25 : (Jvm.Cond.methodLink "PageHoldModel" (143 : Nat) ({ cls := "PageHoldModel", name := "move", desc := "(IZ)V" } : Jvm.MethodName)) ∈ BIG := tb4 25 rfl rfl
theorem wd_4_27 : (Jvm.Cond.instanceMethod ({ cls := "PageHoldModel", name := "move", desc := "(IZ)V" } : Jvm.MethodName)) ∈ BIG := tb4 27 rfl rfl
theorem wd_4_28 : (Jvm.Cond.code ({ cls := "PageHoldModel", name := "move", desc := "(IZ)V" } : Jvm.MethodName) prog_9_method_11_code (3 : Nat) (Option.none : Option Jvm.ClassFile.FieldType)) ∈ BIG := tb4 28 rfl rfl
theorem wd_4_29 : (Jvm.Cond.methodLink "PageHoldModel" (112 : Nat) ({ cls := "PageHoldModel", name := "fromList", desc := "(I)V" } : Jvm.MethodName)) ∈ BIG := tb4 29 rfl rfl
theorem wd_4_31 : (Jvm.Cond.instanceMethod ({ cls := "PageHoldModel", name := "fromList", desc := "(I)V" } : Jvm.MethodName)) ∈ BIG := tb4 31 rfl rfl
theorem wd_4_32 : (Jvm.Cond.code ({ cls := "PageHoldModel", name := "fromList", desc := "(I)V" } : Jvm.MethodName) prog_9_method_10_code (4 : Nat) (Option.none : Option Jvm.ClassFile.FieldType)) ∈ BIG := tb4 32 rfl rfl
theorem wd_4_33 : (Jvm.Cond.methodLink "PageHoldModel" (108 : Nat) ({ cls := "PageHoldModel", name := "placeOf", desc := "(I)I" } : Jvm.MethodName)) ∈ BIG := tb4 33 rfl rfl
theorem wd_4_35 : (Jvm.Cond.instanceMethod ({ cls := "PageHoldModel", name := "placeOf", desc := "(I)I" } : Jvm.MethodName)) ∈ BIG := tb4 35 rfl rfl
theorem wd_4_36 : (Jvm.Cond.code ({ cls := "PageHoldModel", name := "placeOf", desc := "(I)I" } : Jvm.MethodName) prog_9_method_9_code (3 : Nat) (Option.some Jvm.ClassFile.FieldType.int)) ∈ BIG := tb4 36 rfl rfl
theorem wd_4_37 : (Jvm.Cond.methodLink "PageHoldModel" (116 : Nat) ({ cls := "PageHoldModel", name := "toFront", desc := "(IZ)V" } : Jvm.MethodName)) ∈ BIG := tb4 37 rfl rfl
theorem wd_4_39 : (Jvm.Cond.instanceMethod ({ cls := "PageHoldModel", name := "toFront", desc := "(IZ)V" } : Jvm.MethodName)) ∈ BIG := tb4 39 rfl rfl
theorem wd_4_40 : (Jvm.Cond.code ({ cls := "PageHoldModel", name := "toFront", desc := "(IZ)V" } : Jvm.MethodName) prog_9_method_8_code (4 : Nat) (Option.none : Option Jvm.ClassFile.FieldType)) ∈ BIG := tb4 40 rfl rfl
theorem wd_4_41 : (Jvm.Cond.methodLink "PageHoldModel" (165 : Nat) ({ cls := "PageHoldModel", name := "bringIn", desc := "(I)Z" } : Jvm.MethodName)) ∈ BIG := tb4 41 rfl rfl
theorem wd_4_43 : (Jvm.Cond.instanceMethod ({ cls := "PageHoldModel", name := "bringIn", desc := "(I)Z" } : Jvm.MethodName)) ∈ BIG := tb4 43 rfl rfl
theorem wd_4_44 : (Jvm.Cond.code ({ cls := "PageHoldModel", name := "bringIn", desc := "(I)Z" } : Jvm.MethodName) prog_9_method_19_code (4 : Nat) (Option.some Jvm.ClassFile.FieldType.boolean)) ∈ BIG := tb4 44 rfl rfl
theorem wd_4_45 : (Jvm.Cond.methodLink "PageHoldModel" (155 : Nat) ({ cls := "PageHoldModel", name := "frame", desc := "()I" } : Jvm.MethodName)) ∈ BIG := tb4 45 rfl rfl
theorem wd_4_47 : (Jvm.Cond.instanceMethod ({ cls := "PageHoldModel", name := "frame", desc := "()I" } : Jvm.MethodName)) ∈ BIG := tb4 47 rfl rfl
theorem wd_4_48 : (Jvm.Cond.code ({ cls := "PageHoldModel", name := "frame", desc := "()I" } : Jvm.MethodName) prog_9_method_18_code (4 : Nat) (Option.some Jvm.ClassFile.FieldType.int)) ∈ BIG := tb4 48 rfl rfl
theorem wd_4_49 : (Jvm.Cond.methodLink "PageHoldModel" (146 : Nat) ({ cls := "PageHoldModel", name := "isDirty", desc := "(I)Z" } : Jvm.MethodName)) ∈ BIG := tb4 49 rfl rfl
theorem wd_4_51 : (Jvm.Cond.instanceMethod ({ cls := "PageHoldModel", name := "isDirty", desc := "(I)Z" } : Jvm.MethodName)) ∈ BIG := tb4 51 rfl rfl
theorem wd_4_52 : (Jvm.Cond.code ({ cls := "PageHoldModel", name := "isDirty", desc := "(I)Z" } : Jvm.MethodName) prog_9_method_6_code (2 : Nat) (Option.some Jvm.ClassFile.FieldType.boolean)) ∈ BIG := tb4 52 rfl rfl
theorem wd_4_53 : (Jvm.Cond.methodLink "PageHoldModel" (149 : Nat) ({ cls := "PageHoldModel", name := "written", desc := "(I)Z" } : Jvm.MethodName)) ∈ BIG := tb4 53 rfl rfl
theorem wd_4_55 : (Jvm.Cond.instanceMethod ({ cls := "PageHoldModel", name := "written", desc := "(I)Z" } : Jvm.MethodName)) ∈ BIG := tb4 55 rfl rfl
theorem wd_4_56 : (Jvm.Cond.code ({ cls := "PageHoldModel", name := "written", desc := "(I)Z" } : Jvm.MethodName) prog_9_method_17_code (5 : Nat) (Option.some Jvm.ClassFile.FieldType.boolean)) ∈ BIG := tb4 56 rfl rfl
theorem wd_4_57 : (Jvm.Cond.methodLink "PageHoldModel" (136 : Nat) ({ cls := "PageHoldModel", name := "hasBlock", desc := "(I)Z" } : Jvm.MethodName)) ∈ BIG := tb4 57 rfl rfl
theorem wd_4_59 : (Jvm.Cond.instanceMethod ({ cls := "PageHoldModel", name := "hasBlock", desc := "(I)Z" } : Jvm.MethodName)) ∈ BIG := tb4 59 rfl rfl
theorem wd_4_60 : (Jvm.Cond.code ({ cls := "PageHoldModel", name := "hasBlock", desc := "(I)Z" } : Jvm.MethodName) prog_9_method_16_code (3 : Nat) (Option.some Jvm.ClassFile.FieldType.boolean)) ∈ BIG := tb4 60 rfl rfl
theorem wd_4_61 : (Jvm.Cond.methodLink "PageHoldModel" (132 : Nat) ({ cls := "PageHoldModel", name := "wrong", desc := "(II)V" } : Jvm.MethodName)) ∈ BIG := tb4 61 rfl rfl
theorem wd_4_63 : (Jvm.Cond.instanceMethod ({ cls := "PageHoldModel", name := "wrong", desc := "(II)V" } : Jvm.MethodName)) ∈ BIG := tb4 63 rfl rfl
theorem wd_4_64 : (Jvm.Cond.code ({ cls := "PageHoldModel", name := "wrong", desc := "(II)V" } : Jvm.MethodName) prog_9_method_15_code (4 : Nat) (Option.none : Option Jvm.ClassFile.FieldType)) ∈ BIG := tb4 64 rfl rfl
theorem wd_4_65 : (Jvm.Cond.methodLink "PageHoldModel" (140 : Nat) ({ cls := "PageHoldModel", name := "record", desc := "(II)V" } : Jvm.MethodName)) ∈ BIG := tb4 65 rfl rfl
theorem wd_4_67 : (Jvm.Cond.instanceMethod ({ cls := "PageHoldModel", name := "record", desc := "(II)V" } : Jvm.MethodName)) ∈ BIG := tb4 67 rfl rfl
theorem wd_4_68 : (Jvm.Cond.code ({ cls := "PageHoldModel", name := "record", desc := "(II)V" } : Jvm.MethodName) prog_9_method_7_code (4 : Nat) (Option.none : Option Jvm.ClassFile.FieldType)) ∈ BIG := tb4 68 rfl rfl
theorem wd_4_69 : (Jvm.Cond.methodLink "PageHoldModel" (152 : Nat) ({ cls := "PageHoldModel", name := "evict", desc := "(I)V" } : Jvm.MethodName)) ∈ BIG := tb4 69 rfl rfl
theorem wd_4_71 : (Jvm.Cond.instanceMethod ({ cls := "PageHoldModel", name := "evict", desc := "(I)V" } : Jvm.MethodName)) ∈ BIG := tb4 71 rfl rfl
theorem wd_4_72 : (Jvm.Cond.code ({ cls := "PageHoldModel", name := "evict", desc := "(I)V" } : Jvm.MethodName) prog_9_method_14_code (4 : Nat) (Option.none : Option Jvm.ClassFile.FieldType)) ∈ BIG := tb4 72 rfl rfl
theorem wd_4_73 : (Jvm.Cond.methodLink "PageHoldModel" (123 : Nat) ({ cls := "PageHoldModel", name := "goOut", desc := "(I)V" } : Jvm.MethodName)) ∈ BIG := tb4 73 rfl rfl
theorem wd_4_75 : (Jvm.Cond.instanceMethod ({ cls := "PageHoldModel", name := "goOut", desc := "(I)V" } : Jvm.MethodName)) ∈ BIG := tb4 75 rfl rfl
theorem wd_4_76 : (Jvm.Cond.code ({ cls := "PageHoldModel", name := "goOut", desc := "(I)V" } : Jvm.MethodName) prog_9_method_12_code (2 : Nat) (Option.none : Option Jvm.ClassFile.FieldType)) ∈ BIG := tb4 76 rfl rfl
theorem wd_4_77 : (Jvm.Cond.methodLink "PageHoldModel" (129 : Nat) ({ cls := "PageHoldModel", name := "noShadow", desc := "(I)V" } : Jvm.MethodName)) ∈ BIG := tb4 77 rfl rfl
theorem wd_4_79 : (Jvm.Cond.instanceMethod ({ cls := "PageHoldModel", name := "noShadow", desc := "(I)V" } : Jvm.MethodName)) ∈ BIG := tb4 79 rfl rfl
theorem wd_4_80 : (Jvm.Cond.code ({ cls := "PageHoldModel", name := "noShadow", desc := "(I)V" } : Jvm.MethodName) prog_9_method_13_code (2 : Nat) (Option.none : Option Jvm.ClassFile.FieldType)) ∈ BIG := tb4 80 rfl rfl
theorem wd_4_81 : (Jvm.Cond.methodLink "PageHoldModel" (177 : Nat) ({ cls := "PageHoldModel", name := "ahead", desc := "(II)V" } : Jvm.MethodName)) ∈ BIG := tb4 81 rfl rfl
theorem wd_4_83 : (Jvm.Cond.instanceMethod ({ cls := "PageHoldModel", name := "ahead", desc := "(II)V" } : Jvm.MethodName)) ∈ BIG := tb4 83 rfl rfl
theorem wd_4_84 : (Jvm.Cond.code ({ cls := "PageHoldModel", name := "ahead", desc := "(II)V" } : Jvm.MethodName) prog_9_method_22_code (5 : Nat) (Option.none : Option Jvm.ClassFile.FieldType)) ∈ BIG := tb4 84 rfl rfl
theorem wd_4_85 : (Jvm.Cond.methodLink "PageHoldLaw" (30 : Nat) ({ cls := "PageHoldModel", name := "hand", desc := "(I)I" } : Jvm.MethodName)) ∈ BIG := tb4 85 rfl rfl
theorem wd_4_86 : (Jvm.Cond.instanceMethod ({ cls := "PageHoldModel", name := "hand", desc := "(I)I" } : Jvm.MethodName)) ∈ BIG := tb4 86 rfl rfl
theorem wd_4_87 : (Jvm.Cond.selects "PageHoldModel" ({ cls := "PageHoldModel", name := "hand", desc := "(I)I" } : Jvm.MethodName) ({ cls := "PageHoldModel", name := "hand", desc := "(I)I" } : Jvm.MethodName)) ∈ BIG := tb4 87 rfl rfl
theorem wd_4_88 : (Jvm.Cond.code ({ cls := "PageHoldModel", name := "hand", desc := "(I)I" } : Jvm.MethodName) prog_9_method_24_code (2 : Nat) (Option.some Jvm.ClassFile.FieldType.int)) ∈ BIG := tb4 88 rfl rfl
theorem wd_4_89 : (Jvm.Cond.methodLink "PageHoldLaw" (37 : Nat) ({ cls := "PageHoldModel", name := "write", desc := "(IIJI)I" } : Jvm.MethodName)) ∈ BIG := tb4 89 rfl rfl
theorem wd_4_90 : (Jvm.Cond.instanceMethod ({ cls := "PageHoldModel", name := "write", desc := "(IIJI)I" } : Jvm.MethodName)) ∈ BIG := tb4 90 rfl rfl
theorem wd_4_91 : (Jvm.Cond.selects "PageHoldModel" ({ cls := "PageHoldModel", name := "write", desc := "(IIJI)I" } : Jvm.MethodName) ({ cls := "PageHoldModel", name := "write", desc := "(IIJI)I" } : Jvm.MethodName)) ∈ BIG := tb4 91 rfl rfl
theorem wd_4_92 : (Jvm.Cond.code ({ cls := "PageHoldModel", name := "write", desc := "(IIJI)I" } : Jvm.MethodName) prog_9_method_30_code (6 : Nat) (Option.some Jvm.ClassFile.FieldType.int)) ∈ BIG := tb4 92 rfl rfl
theorem wd_4_93 : (Jvm.Cond.methodLink "PageHoldModel" (195 : Nat) ({ cls := "PageHoldModel", name := "put", desc := "(IIIZJI)I" } : Jvm.MethodName)) ∈ BIG := tb4 93 rfl rfl
theorem wd_4_95 : (Jvm.Cond.instanceMethod ({ cls := "PageHoldModel", name := "put", desc := "(IIIZJI)I" } : Jvm.MethodName)) ∈ BIG := tb4 95 rfl rfl
theorem wd_4_96 : (Jvm.Cond.code ({ cls := "PageHoldModel", name := "put", desc := "(IIIZJI)I" } : Jvm.MethodName) prog_9_method_29_code (12 : Nat) (Option.some Jvm.ClassFile.FieldType.int)) ∈ BIG := tb4 96 rfl rfl
theorem wd_4_97 : (Jvm.Cond.methodLink "PageHoldModel" (192 : Nat) ({ cls := "PageHoldModel", name := "lessDirty", desc := "()V" } : Jvm.MethodName)) ∈ BIG := tb4 97 rfl rfl
theorem wd_4_99 : (Jvm.Cond.instanceMethod ({ cls := "PageHoldModel", name := "lessDirty", desc := "()V" } : Jvm.MethodName)) ∈ BIG := tb4 99 rfl rfl
theorem wd_4_100 : (Jvm.Cond.code ({ cls := "PageHoldModel", name := "lessDirty", desc := "()V" } : Jvm.MethodName) prog_9_method_28_code (3 : Nat) (Option.none : Option Jvm.ClassFile.FieldType)) ∈ BIG := tb4 100 rfl rfl
theorem wd_4_101 : (Jvm.Cond.methodLink "PageHoldModel" (180 : Nat) ({ cls := "PageHoldModel", name := "dirties", desc := "()I" } : Jvm.MethodName)) ∈ BIG := tb4 101 rfl rfl
theorem wd_4_103 : (Jvm.Cond.instanceMethod ({ cls := "PageHoldModel", name := "dirties", desc := "()I" } : Jvm.MethodName)) ∈ BIG := tb4 103 rfl rfl
theorem wd_4_104 : (Jvm.Cond.code ({ cls := "PageHoldModel", name := "dirties", desc := "()I" } : Jvm.MethodName) prog_9_method_25_code (3 : Nat) (Option.some Jvm.ClassFile.FieldType.int)) ∈ BIG := tb4 104 rfl rfl
theorem wd_4_105 : (Jvm.Cond.methodLink "PageHoldModel" (183 : Nat) ({ cls := "PageHoldModel", name := "noneTried", desc := "()V" } : Jvm.MethodName)) ∈ BIG := tb4 105 rfl rfl
theorem wd_4_107 : (Jvm.Cond.instanceMethod ({ cls := "PageHoldModel", name := "noneTried", desc := "()V" } : Jvm.MethodName)) ∈ BIG := tb4 107 rfl rfl
theorem wd_4_108 : (Jvm.Cond.code ({ cls := "PageHoldModel", name := "noneTried", desc := "()V" } : Jvm.MethodName) prog_9_method_27_code (2 : Nat) (Option.none : Option Jvm.ClassFile.FieldType)) ∈ BIG := tb4 108 rfl rfl
theorem wd_4_109 : (Jvm.Cond.methodLink "PageHoldModel" (189 : Nat) ({ cls := "PageHoldModel", name := "oldest", desc := "(I)I" } : Jvm.MethodName)) ∈ BIG := tb4 109 rfl rfl
theorem wd_4_111 : (Jvm.Cond.instanceMethod ({ cls := "PageHoldModel", name := "oldest", desc := "(I)I" } : Jvm.MethodName)) ∈ BIG := tb4 111 rfl rfl
theorem wd_4_112 : (Jvm.Cond.code ({ cls := "PageHoldModel", name := "oldest", desc := "(I)I" } : Jvm.MethodName) prog_9_method_26_code (4 : Nat) (Option.some Jvm.ClassFile.FieldType.int)) ∈ BIG := tb4 112 rfl rfl
theorem wd_4_113 : (Jvm.Cond.methodLink "PageHoldLaw" (42 : Nat) ({ cls := "PageHoldModel", name := "fill", desc := "(IIII)I" } : Jvm.MethodName)) ∈ BIG := tb4 113 rfl rfl
theorem wd_4_114 : (Jvm.Cond.instanceMethod ({ cls := "PageHoldModel", name := "fill", desc := "(IIII)I" } : Jvm.MethodName)) ∈ BIG := tb4 114 rfl rfl
theorem wd_4_115 : (Jvm.Cond.selects "PageHoldModel" ({ cls := "PageHoldModel", name := "fill", desc := "(IIII)I" } : Jvm.MethodName) ({ cls := "PageHoldModel", name := "fill", desc := "(IIII)I" } : Jvm.MethodName)) ∈ BIG := tb4 115 rfl rfl
theorem wd_4_116 : (Jvm.Cond.code ({ cls := "PageHoldModel", name := "fill", desc := "(IIII)I" } : Jvm.MethodName) prog_9_method_31_code (5 : Nat) (Option.some Jvm.ClassFile.FieldType.int)) ∈ BIG := tb4 116 rfl rfl
theorem wd_4_117 : (Jvm.Cond.methodLink "PageHoldLaw" (47 : Nat) ({ cls := "PageHoldModel", name := "truncate", desc := "(II)I" } : Jvm.MethodName)) ∈ BIG := tb4 117 rfl rfl
theorem wd_4_118 : (Jvm.Cond.instanceMethod ({ cls := "PageHoldModel", name := "truncate", desc := "(II)I" } : Jvm.MethodName)) ∈ BIG := tb4 118 rfl rfl
theorem wd_4_119 : (Jvm.Cond.selects "PageHoldModel" ({ cls := "PageHoldModel", name := "truncate", desc := "(II)I" } : Jvm.MethodName) ({ cls := "PageHoldModel", name := "truncate", desc := "(II)I" } : Jvm.MethodName)) ∈ BIG := tb4 119 rfl rfl
theorem wd_4_120 : (Jvm.Cond.code ({ cls := "PageHoldModel", name := "truncate", desc := "(II)I" } : Jvm.MethodName) prog_9_method_33_code (6 : Nat) (Option.some Jvm.ClassFile.FieldType.int)) ∈ BIG := tb4 120 rfl rfl
theorem wd_4_121 : (Jvm.Cond.methodLink "PageHoldModel" (199 : Nat) ({ cls := "PageHoldModel", name := "isHoled", desc := "(I)Z" } : Jvm.MethodName)) ∈ BIG := tb4 121 rfl rfl
theorem wd_4_123 : (Jvm.Cond.instanceMethod ({ cls := "PageHoldModel", name := "isHoled", desc := "(I)Z" } : Jvm.MethodName)) ∈ BIG := tb4 123 rfl rfl
theorem wd_4_124 : (Jvm.Cond.code ({ cls := "PageHoldModel", name := "isHoled", desc := "(I)Z" } : Jvm.MethodName) prog_9_method_32_code (3 : Nat) (Option.some Jvm.ClassFile.FieldType.boolean)) ∈ BIG := tb4 124 rfl rfl
theorem wd_4_125 : (Jvm.Cond.methodLink "PageHoldLaw" (51 : Nat) ({ cls := "PageHoldModel", name := "punch", desc := "(III)I" } : Jvm.MethodName)) ∈ BIG := tb4 125 rfl rfl
theorem wd_4_126 : (Jvm.Cond.instanceMethod ({ cls := "PageHoldModel", name := "punch", desc := "(III)I" } : Jvm.MethodName)) ∈ BIG := tb4 126 rfl rfl
theorem wd_4_127 : (Jvm.Cond.selects "PageHoldModel" ({ cls := "PageHoldModel", name := "punch", desc := "(III)I" } : Jvm.MethodName) ({ cls := "PageHoldModel", name := "punch", desc := "(III)I" } : Jvm.MethodName)) ∈ BIG := tb4 127 rfl rfl
theorem wd_4_128 : (Jvm.Cond.code ({ cls := "PageHoldModel", name := "punch", desc := "(III)I" } : Jvm.MethodName) prog_9_method_34_code (6 : Nat) (Option.some Jvm.ClassFile.FieldType.int)) ∈ BIG := tb4 128 rfl rfl
theorem wd_4_129 : (Jvm.Cond.methodLink "PageHoldModel" (202 : Nat) ({ cls := "PageHoldModel", name := "isPage", desc := "(I)Z" } : Jvm.MethodName)) ∈ BIG := tb4 129 rfl rfl
theorem wd_4_130 : (Jvm.Cond.static ({ cls := "PageHoldModel", name := "isPage", desc := "(I)Z" } : Jvm.MethodName)) ∈ BIG := tb4 130 rfl rfl
theorem wd_4_131 : (Jvm.Cond.code ({ cls := "PageHoldModel", name := "isPage", desc := "(I)Z" } : Jvm.MethodName) prog_9_method_4_code (1 : Nat) (Option.some Jvm.ClassFile.FieldType.boolean)) ∈ BIG := tb4 131 rfl rfl
theorem wd_4_132 : (Jvm.Cond.methodLink "PageHoldLaw" (55 : Nat) ({ cls := "PageHoldModel", name := "sync", desc := "(I)I" } : Jvm.MethodName)) ∈ BIG := tb4 132 rfl rfl
theorem wd_4_133 : (Jvm.Cond.instanceMethod ({ cls := "PageHoldModel", name := "sync", desc := "(I)I" } : Jvm.MethodName)) ∈ BIG := tb4 133 rfl rfl
theorem wd_4_134 : (Jvm.Cond.selects "PageHoldModel" ({ cls := "PageHoldModel", name := "sync", desc := "(I)I" } : Jvm.MethodName) ({ cls := "PageHoldModel", name := "sync", desc := "(I)I" } : Jvm.MethodName)) ∈ BIG := tb4 134 rfl rfl
theorem wd_4_135 : (Jvm.Cond.code ({ cls := "PageHoldModel", name := "sync", desc := "(I)I" } : Jvm.MethodName) prog_9_method_35_code (4 : Nat) (Option.some Jvm.ClassFile.FieldType.int)) ∈ BIG := tb4 135 rfl rfl
theorem wd_4_136 : (Jvm.Cond.methodLink "PageHoldLaw" (60 : Nat) ({ cls := "PageHoldModel", name := "syncAll", desc := "()I" } : Jvm.MethodName)) ∈ BIG := tb4 136 rfl rfl
theorem wd_4_137 : (Jvm.Cond.instanceMethod ({ cls := "PageHoldModel", name := "syncAll", desc := "()I" } : Jvm.MethodName)) ∈ BIG := tb4 137 rfl rfl
theorem wd_4_138 : (Jvm.Cond.selects "PageHoldModel" ({ cls := "PageHoldModel", name := "syncAll", desc := "()I" } : Jvm.MethodName) ({ cls := "PageHoldModel", name := "syncAll", desc := "()I" } : Jvm.MethodName)) ∈ BIG := tb4 138 rfl rfl
theorem wd_4_139 : (Jvm.Cond.code ({ cls := "PageHoldModel", name := "syncAll", desc := "()I" } : Jvm.MethodName) prog_9_method_36_code (4 : Nat) (Option.some Jvm.ClassFile.FieldType.int)) ∈ BIG := tb4 139 rfl rfl
theorem wd_4_140 : (Jvm.Cond.methodLink "PageHoldLaw" (64 : Nat) ({ cls := "PageHoldModel", name := "tick", desc := "(I)I" } : Jvm.MethodName)) ∈ BIG := tb4 140 rfl rfl
theorem wd_4_141 : (Jvm.Cond.instanceMethod ({ cls := "PageHoldModel", name := "tick", desc := "(I)I" } : Jvm.MethodName)) ∈ BIG := tb4 141 rfl rfl
theorem wd_4_142 : (Jvm.Cond.selects "PageHoldModel" ({ cls := "PageHoldModel", name := "tick", desc := "(I)I" } : Jvm.MethodName) ({ cls := "PageHoldModel", name := "tick", desc := "(I)I" } : Jvm.MethodName)) ∈ BIG := tb4 142 rfl rfl
theorem wd_4_143 : (Jvm.Cond.code ({ cls := "PageHoldModel", name := "tick", desc := "(I)I" } : Jvm.MethodName) prog_9_method_37_code (6 : Nat) (Option.some Jvm.ClassFile.FieldType.int)) ∈ BIG := tb4 143 rfl rfl
theorem wd_4_144 : (Jvm.Cond.methodLink "PageHoldLaw" (68 : Nat) ({ cls := "PageHoldModel", name := "drop", desc := "()I" } : Jvm.MethodName)) ∈ BIG := tb4 144 rfl rfl
theorem wd_4_145 : (Jvm.Cond.instanceMethod ({ cls := "PageHoldModel", name := "drop", desc := "()I" } : Jvm.MethodName)) ∈ BIG := tb4 145 rfl rfl
theorem wd_4_146 : (Jvm.Cond.selects "PageHoldModel" ({ cls := "PageHoldModel", name := "drop", desc := "()I" } : Jvm.MethodName) ({ cls := "PageHoldModel", name := "drop", desc := "()I" } : Jvm.MethodName)) ∈ BIG := tb4 146 rfl rfl
theorem wd_4_147 : (Jvm.Cond.code ({ cls := "PageHoldModel", name := "drop", desc := "()I" } : Jvm.MethodName) prog_9_method_38_code (3 : Nat) (Option.some Jvm.ClassFile.FieldType.int)) ∈ BIG := tb4 147 rfl rfl
theorem wd_4_148 : (Jvm.Cond.methodLink "PageHoldLaw" (72 : Nat) ({ cls := "PageHoldModel", name := "crash", desc := "()I" } : Jvm.MethodName)) ∈ BIG := tb4 148 rfl rfl
theorem wd_4_149 : (Jvm.Cond.instanceMethod ({ cls := "PageHoldModel", name := "crash", desc := "()I" } : Jvm.MethodName)) ∈ BIG := tb4 149 rfl rfl
theorem wd_4_150 : (Jvm.Cond.selects "PageHoldModel" ({ cls := "PageHoldModel", name := "crash", desc := "()I" } : Jvm.MethodName) ({ cls := "PageHoldModel", name := "crash", desc := "()I" } : Jvm.MethodName)) ∈ BIG := tb4 150 rfl rfl
theorem wd_4_151 : (Jvm.Cond.code ({ cls := "PageHoldModel", name := "crash", desc := "()I" } : Jvm.MethodName) prog_9_method_39_code (3 : Nat) (Option.some Jvm.ClassFile.FieldType.int)) ∈ BIG := tb4 151 rfl rfl
theorem wd_4_152 : (Jvm.Cond.methodLink "PageHoldLaw" (77 : Nat) ({ cls := "PageHoldModel", name := "fail", desc := "(IZ)Z" } : Jvm.MethodName)) ∈ BIG := tb4 152 rfl rfl
theorem wd_4_153 : (Jvm.Cond.instanceMethod ({ cls := "PageHoldModel", name := "fail", desc := "(IZ)Z" } : Jvm.MethodName)) ∈ BIG := tb4 153 rfl rfl
theorem wd_4_154 : (Jvm.Cond.selects "PageHoldModel" ({ cls := "PageHoldModel", name := "fail", desc := "(IZ)Z" } : Jvm.MethodName) ({ cls := "PageHoldModel", name := "fail", desc := "(IZ)Z" } : Jvm.MethodName)) ∈ BIG := tb4 154 rfl rfl
theorem wd_4_155 : (Jvm.Cond.code ({ cls := "PageHoldModel", name := "fail", desc := "(IZ)Z" } : Jvm.MethodName) prog_9_method_40_code (4 : Nat) (Option.some Jvm.ClassFile.FieldType.boolean)) ∈ BIG := tb4 155 rfl rfl
theorem wd_4_156 : (Jvm.Cond.methodLink "PageHoldLaw" (82 : Nat) ({ cls := "PageHoldModel", name := "pin", desc := "(IIZ)Z" } : Jvm.MethodName)) ∈ BIG := tb4 156 rfl rfl
theorem wd_4_157 : (Jvm.Cond.instanceMethod ({ cls := "PageHoldModel", name := "pin", desc := "(IIZ)Z" } : Jvm.MethodName)) ∈ BIG := tb4 157 rfl rfl
theorem wd_4_158 : (Jvm.Cond.selects "PageHoldModel" ({ cls := "PageHoldModel", name := "pin", desc := "(IIZ)Z" } : Jvm.MethodName) ({ cls := "PageHoldModel", name := "pin", desc := "(IIZ)Z" } : Jvm.MethodName)) ∈ BIG := tb4 158 rfl rfl
theorem wd_4_159 : (Jvm.Cond.code ({ cls := "PageHoldModel", name := "pin", desc := "(IIZ)Z" } : Jvm.MethodName) prog_9_method_42_code (6 : Nat) (Option.some Jvm.ClassFile.FieldType.boolean)) ∈ BIG := tb4 159 rfl rfl
theorem wd_4_160 : (Jvm.Cond.methodLink "PageHoldModel" (205 : Nat) ({ cls := "PageHoldModel", name := "pins", desc := "()I" } : Jvm.MethodName)) ∈ BIG := tb4 160 rfl rfl
theorem wd_4_162 : (Jvm.Cond.instanceMethod ({ cls := "PageHoldModel", name := "pins", desc := "()I" } : Jvm.MethodName)) ∈ BIG := tb4 162 rfl rfl
theorem wd_4_163 : (Jvm.Cond.code ({ cls := "PageHoldModel", name := "pins", desc := "()I" } : Jvm.MethodName) prog_9_method_41_code (3 : Nat) (Option.some Jvm.ClassFile.FieldType.int)) ∈ BIG := tb4 163 rfl rfl
theorem wd_4_164 : (Jvm.Cond.methodLink "PageHoldLaw" (86 : Nat) ({ cls := "PageHoldModel", name := "size", desc := "(I)I" } : Jvm.MethodName)) ∈ BIG := tb4 164 rfl rfl
theorem wd_4_165 : (Jvm.Cond.instanceMethod ({ cls := "PageHoldModel", name := "size", desc := "(I)I" } : Jvm.MethodName)) ∈ BIG := tb4 165 rfl rfl
theorem wd_4_166 : (Jvm.Cond.selects "PageHoldModel" ({ cls := "PageHoldModel", name := "size", desc := "(I)I" } : Jvm.MethodName) ({ cls := "PageHoldModel", name := "size", desc := "(I)I" } : Jvm.MethodName)) ∈ BIG := tb4 166 rfl rfl
theorem wd_4_167 : (Jvm.Cond.code ({ cls := "PageHoldModel", name := "size", desc := "(I)I" } : Jvm.MethodName) prog_9_method_43_code (2 : Nat) (Option.some Jvm.ClassFile.FieldType.int)) ∈ BIG := tb4 167 rfl rfl
theorem wd_4_168 : (Jvm.Cond.methodLink "PageHoldLaw" (90 : Nat) ({ cls := "PageHoldModel", name := "page", desc := "(III)I" } : Jvm.MethodName)) ∈ BIG := tb4 168 rfl rfl
theorem wd_4_169 : (Jvm.Cond.instanceMethod ({ cls := "PageHoldModel", name := "page", desc := "(III)I" } : Jvm.MethodName)) ∈ BIG := tb4 169 rfl rfl
theorem wd_4_170 : (Jvm.Cond.selects "PageHoldModel" ({ cls := "PageHoldModel", name := "page", desc := "(III)I" } : Jvm.MethodName) ({ cls := "PageHoldModel", name := "page", desc := "(III)I" } : Jvm.MethodName)) ∈ BIG := tb4 170 rfl rfl
theorem wd_4_171 : (Jvm.Cond.code ({ cls := "PageHoldModel", name := "page", desc := "(III)I" } : Jvm.MethodName) prog_9_method_44_code (5 : Nat) (Option.some Jvm.ClassFile.FieldType.int)) ∈ BIG := tb4 171 rfl rfl
theorem wd_4_172 : (Jvm.Cond.methodLink "PageHoldLaw" (94 : Nat) ({ cls := "PageHoldModel", name := "next", desc := "(III)I" } : Jvm.MethodName)) ∈ BIG := tb4 172 rfl rfl
theorem wd_4_173 : (Jvm.Cond.instanceMethod ({ cls := "PageHoldModel", name := "next", desc := "(III)I" } : Jvm.MethodName)) ∈ BIG := tb4 173 rfl rfl
theorem wd_4_174 : (Jvm.Cond.selects "PageHoldModel" ({ cls := "PageHoldModel", name := "next", desc := "(III)I" } : Jvm.MethodName) ({ cls := "PageHoldModel", name := "next", desc := "(III)I" } : Jvm.MethodName)) ∈ BIG := tb4 174 rfl rfl
theorem wd_4_175 : (Jvm.Cond.code ({ cls := "PageHoldModel", name := "next", desc := "(III)I" } : Jvm.MethodName) prog_9_method_46_code (5 : Nat) (Option.some Jvm.ClassFile.FieldType.int)) ∈ BIG := tb4 175 rfl rfl
theorem wd_4_176 : (Jvm.Cond.methodLink "PageHoldModel" (208 : Nat) ({ cls := "PageHoldModel", name := "hasMark", desc := "(II)Z" } : Jvm.MethodName)) ∈ BIG := tb4 176 rfl rfl
theorem wd_4_178 : (Jvm.Cond.instanceMethod ({ cls := "PageHoldModel", name := "hasMark", desc := "(II)Z" } : Jvm.MethodName)) ∈ BIG := tb4 178 rfl rfl
theorem wd_4_179 : (Jvm.Cond.code ({ cls := "PageHoldModel", name := "hasMark", desc := "(II)Z" } : Jvm.MethodName) prog_9_method_45_code (3 : Nat) (Option.some Jvm.ClassFile.FieldType.boolean)) ∈ BIG := tb4 179 rfl rfl
theorem wd_4_180 : (Jvm.Cond.methodLink "PageHoldLaw" (98 : Nat) ({ cls := "PageHoldModel", name := "tree", desc := "(II)I" } : Jvm.MethodName)) ∈ BIG := tb4 180 rfl rfl
theorem wd_4_181 : (Jvm.Cond.instanceMethod ({ cls := "PageHoldModel", name := "tree", desc := "(II)I" } : Jvm.MethodName)) ∈ BIG := tb4 181 rfl rfl
theorem wd_4_182 : (Jvm.Cond.selects "PageHoldModel" ({ cls := "PageHoldModel", name := "tree", desc := "(II)I" } : Jvm.MethodName) ({ cls := "PageHoldModel", name := "tree", desc := "(II)I" } : Jvm.MethodName)) ∈ BIG := tb4 182 rfl rfl
theorem wd_4_183 : (Jvm.Cond.code ({ cls := "PageHoldModel", name := "tree", desc := "(II)I" } : Jvm.MethodName) prog_9_method_50_code (5 : Nat) (Option.some Jvm.ClassFile.FieldType.int)) ∈ BIG := tb4 183 rfl rfl
theorem wd_4_184 : (Jvm.Cond.methodLink "PageHoldModel" (215 : Nat) ({ cls := "PageHoldModel", name := "height", desc := "(I)I" } : Jvm.MethodName)) ∈ BIG := tb4 184 rfl rfl
theorem wd_4_186 : (Jvm.Cond.instanceMethod ({ cls := "PageHoldModel", name := "height", desc := "(I)I" } : Jvm.MethodName)) ∈ BIG := tb4 186 rfl rfl
theorem wd_4_187 : (Jvm.Cond.code ({ cls := "PageHoldModel", name := "height", desc := "(I)I" } : Jvm.MethodName) prog_9_method_48_code (4 : Nat) (Option.some Jvm.ClassFile.FieldType.int)) ∈ BIG := tb4 187 rfl rfl
theorem wd_4_188 : (Jvm.Cond.methodLink "PageHoldModel" (212 : Nat) ({ cls := "PageHoldModel", name := "isEntry", desc := "(I)Z" } : Jvm.MethodName)) ∈ BIG := tb4 188 rfl rfl
theorem wd_4_190 : (Jvm.Cond.instanceMethod ({ cls := "PageHoldModel", name := "isEntry", desc := "(I)Z" } : Jvm.MethodName)) ∈ BIG := tb4 190 rfl rfl
theorem wd_4_191 : (Jvm.Cond.code ({ cls := "PageHoldModel", name := "isEntry", desc := "(I)Z" } : Jvm.MethodName) prog_9_method_47_code (2 : Nat) (Option.some Jvm.ClassFile.FieldType.boolean)) ∈ BIG := tb4 191 rfl rfl
theorem wd_4_192 : (Jvm.Cond.methodLink "PageHoldModel" (218 : Nat) ({ cls := "PageHoldModel", name := "nodes", desc := "(I)I" } : Jvm.MethodName)) ∈ BIG := tb4 192 rfl rfl
theorem wd_4_194 : (Jvm.Cond.instanceMethod ({ cls := "PageHoldModel", name := "nodes", desc := "(I)I" } : Jvm.MethodName)) ∈ BIG := tb4 194 rfl rfl
theorem wd_4_195 : (Jvm.Cond.code ({ cls := "PageHoldModel", name := "nodes", desc := "(I)I" } : Jvm.MethodName) prog_9_method_49_code (8 : Nat) (Option.some Jvm.ClassFile.FieldType.int)) ∈ BIG := tb4 195 rfl rfl
theorem wd_4_196 : (Jvm.Cond.methodLink "PageHoldLaw" (103 : Nat) ({ cls := "PageHoldModel", name := "listed", desc := "(ZI)I" } : Jvm.MethodName)) ∈ BIG := tb4 196 rfl rfl
theorem wd_4_197 : (Jvm.Cond.instanceMethod ({ cls := "PageHoldModel", name := "listed", desc := "(ZI)I" } : Jvm.MethodName)) ∈ BIG := tb4 197 rfl rfl
theorem wd_4_198 : (Jvm.Cond.selects "PageHoldModel" ({ cls := "PageHoldModel", name := "listed", desc := "(ZI)I" } : Jvm.MethodName) ({ cls := "PageHoldModel", name := "listed", desc := "(ZI)I" } : Jvm.MethodName)) ∈ BIG := tb4 198 rfl rfl
theorem wd_4_199 : (Jvm.Cond.code ({ cls := "PageHoldModel", name := "listed", desc := "(ZI)I" } : Jvm.MethodName) prog_9_method_51_code (3 : Nat) (Option.some Jvm.ClassFile.FieldType.int)) ∈ BIG := tb4 199 rfl rfl
theorem wd_4_200 : (Jvm.Cond.methodLink "PageHoldLaw" (107 : Nat) ({ cls := "PageHoldModel", name := "disk", desc := "(II)I" } : Jvm.MethodName)) ∈ BIG := tb4 200 rfl rfl
theorem wd_4_201 : (Jvm.Cond.instanceMethod ({ cls := "PageHoldModel", name := "disk", desc := "(II)I" } : Jvm.MethodName)) ∈ BIG := tb4 201 rfl rfl
theorem wd_4_202 : (Jvm.Cond.selects "PageHoldModel" ({ cls := "PageHoldModel", name := "disk", desc := "(II)I" } : Jvm.MethodName) ({ cls := "PageHoldModel", name := "disk", desc := "(II)I" } : Jvm.MethodName)) ∈ BIG := tb4 202 rfl rfl
theorem wd_4_203 : (Jvm.Cond.code ({ cls := "PageHoldModel", name := "disk", desc := "(II)I" } : Jvm.MethodName) prog_9_method_52_code (3 : Nat) (Option.some Jvm.ClassFile.FieldType.int)) ∈ BIG := tb4 203 rfl rfl
theorem wd_4_204 : (Jvm.Cond.methodLink "PageHoldLaw" (111 : Nat) ({ cls := "PageHoldModel", name := "run", desc := "(II)I" } : Jvm.MethodName)) ∈ BIG := tb4 204 rfl rfl
theorem wd_4_205 : (Jvm.Cond.instanceMethod ({ cls := "PageHoldModel", name := "run", desc := "(II)I" } : Jvm.MethodName)) ∈ BIG := tb4 205 rfl rfl
theorem wd_4_206 : (Jvm.Cond.selects "PageHoldModel" ({ cls := "PageHoldModel", name := "run", desc := "(II)I" } : Jvm.MethodName) ({ cls := "PageHoldModel", name := "run", desc := "(II)I" } : Jvm.MethodName)) ∈ BIG := tb4 206 rfl rfl
theorem wd_4_207 : (Jvm.Cond.code ({ cls := "PageHoldModel", name := "run", desc := "(II)I" } : Jvm.MethodName) prog_9_method_53_code (3 : Nat) (Option.some Jvm.ClassFile.FieldType.int)) ∈ BIG := tb4 207 rfl rfl
theorem wd_4_208 : (Jvm.Cond.methodLink "PageHoldLaw" (115 : Nat) ({ cls := "PageHoldModel", name := "told", desc := "(I)I" } : Jvm.MethodName)) ∈ BIG := tb4 208 rfl rfl
theorem wd_4_209 : (Jvm.Cond.instanceMethod ({ cls := "PageHoldModel", name := "told", desc := "(I)I" } : Jvm.MethodName)) ∈ BIG := tb4 209 rfl rfl
theorem wd_4_210 : (Jvm.Cond.selects "PageHoldModel" ({ cls := "PageHoldModel", name := "told", desc := "(I)I" } : Jvm.MethodName) ({ cls := "PageHoldModel", name := "told", desc := "(I)I" } : Jvm.MethodName)) ∈ BIG := tb4 210 rfl rfl
theorem wd_4_211 : (Jvm.Cond.code ({ cls := "PageHoldModel", name := "told", desc := "(I)I" } : Jvm.MethodName) prog_9_method_57_code (2 : Nat) (Option.some Jvm.ClassFile.FieldType.int)) ∈ BIG := tb4 211 rfl rfl
theorem wd_4_212 : (Jvm.Cond.methodLink "PageHoldModel" (221 : Nat) ({ cls := "PageHoldModel", name := "pagesIn", desc := "()I" } : Jvm.MethodName)) ∈ BIG := tb4 212 rfl rfl
theorem wd_4_214 : (Jvm.Cond.instanceMethod ({ cls := "PageHoldModel", name := "pagesIn", desc := "()I" } : Jvm.MethodName)) ∈ BIG := tb4 214 rfl rfl
theorem wd_4_215 : (Jvm.Cond.code ({ cls := "PageHoldModel", name := "pagesIn", desc := "()I" } : Jvm.MethodName) prog_9_method_54_code (3 : Nat) (Option.some Jvm.ClassFile.FieldType.int)) ∈ BIG := tb4 215 rfl rfl
theorem wd_4_216 : (Jvm.Cond.methodLink "PageHoldModel" (224 : Nat) ({ cls := "PageHoldModel", name := "freeBlocks", desc := "()I" } : Jvm.MethodName)) ∈ BIG := tb4 216 rfl rfl
theorem wd_4_218 : (Jvm.Cond.instanceMethod ({ cls := "PageHoldModel", name := "freeBlocks", desc := "()I" } : Jvm.MethodName)) ∈ BIG := tb4 218 rfl rfl
theorem wd_4_219 : (Jvm.Cond.code ({ cls := "PageHoldModel", name := "freeBlocks", desc := "()I" } : Jvm.MethodName) prog_9_method_55_code (3 : Nat) (Option.some Jvm.ClassFile.FieldType.int)) ∈ BIG := tb4 219 rfl rfl
theorem wd_4_220 : (Jvm.Cond.methodLink "PageHoldModel" (227 : Nat) ({ cls := "PageHoldModel", name := "wrongFiles", desc := "()I" } : Jvm.MethodName)) ∈ BIG := tb4 220 rfl rfl
theorem wd_4_222 : (Jvm.Cond.instanceMethod ({ cls := "PageHoldModel", name := "wrongFiles", desc := "()I" } : Jvm.MethodName)) ∈ BIG := tb4 222 rfl rfl
theorem wd_4_223 : (Jvm.Cond.code ({ cls := "PageHoldModel", name := "wrongFiles", desc := "()I" } : Jvm.MethodName) prog_9_method_56_code (3 : Nat) (Option.some Jvm.ClassFile.FieldType.int)) ∈ BIG := tb4 223 rfl rfl
theorem wd_4_224 : (Jvm.Cond.constantLong "PageHoldLaw" (31 : Nat) (4294967295 : Int64)) ∈ BIG := tb4 224 rfl rfl
theorem wd_s_0 : Cond.selects "PageHold" ⟨"PageHold", "readPage", "(IIII)I"⟩ ⟨"PageHold", "readPage", "(IIII)I"⟩ ∈ BIG := bg_sel (y := ⟨"PageHold", "readPage", "(IIII)I"⟩) 9 0 (by decide +kernel)
theorem wd_s_1 : Cond.selects "PageHold" ⟨"PageHold", "touch", "(I)I"⟩ ⟨"PageHold", "touch", "(I)I"⟩ ∈ BIG := bg_sel (y := ⟨"PageHold", "touch", "(I)I"⟩) 9 1 (by decide +kernel)
theorem wd_s_2 : Cond.selects "PageHold" ⟨"PageHold", "bringIn", "(I)I"⟩ ⟨"PageHold", "bringIn", "(I)I"⟩ ∈ BIG := bg_sel (y := ⟨"PageHold", "bringIn", "(I)I"⟩) 9 2 (by decide +kernel)
theorem wd_s_3 : Cond.selects "PageHold" ⟨"PageHold", "lookAtInactive", "()I"⟩ ⟨"PageHold", "lookAtInactive", "()I"⟩ ∈ BIG := bg_sel (y := ⟨"PageHold", "lookAtInactive", "()I"⟩) 9 3 (by decide +kernel)
theorem wd_s_4 : Cond.selects "PageHold" ⟨"PageHold", "flush", "(I)Z"⟩ ⟨"PageHold", "flush", "(I)Z"⟩ ∈ BIG := bg_sel (y := ⟨"PageHold", "flush", "(I)Z"⟩) 9 4 (by decide +kernel)
theorem wd_s_5 : Cond.selects "PageHold" ⟨"PageHold", "giveBlock", "(I)Z"⟩ ⟨"PageHold", "giveBlock", "(I)Z"⟩ ∈ BIG := bg_sel (y := ⟨"PageHold", "giveBlock", "(I)Z"⟩) 9 5 (by decide +kernel)
theorem wd_s_6 : Cond.selects "PageHold$Disk" ⟨"PageHold$Disk", "note", "(II)V"⟩ ⟨"PageHold$Disk", "note", "(II)V"⟩ ∈ BIG := bg_sel (y := ⟨"PageHold$Disk", "note", "(II)V"⟩) 11 6 (by decide +kernel)
theorem wd_s_7 : Cond.selects "PageHold" ⟨"PageHold", "lookAtActive", "()I"⟩ ⟨"PageHold", "lookAtActive", "()I"⟩ ∈ BIG := bg_sel (y := ⟨"PageHold", "lookAtActive", "()I"⟩) 9 7 (by decide +kernel)
theorem wd_s_8 : Cond.selects "PageHold" ⟨"PageHold", "evict", "(I)V"⟩ ⟨"PageHold", "evict", "(I)V"⟩ ∈ BIG := bg_sel (y := ⟨"PageHold", "evict", "(I)V"⟩) 9 8 (by decide +kernel)
theorem wd_s_9 : Cond.selects "PageHold" ⟨"PageHold", "bringAhead", "(II)V"⟩ ⟨"PageHold", "bringAhead", "(II)V"⟩ ∈ BIG := bg_sel (y := ⟨"PageHold", "bringAhead", "(II)V"⟩) 9 9 (by decide +kernel)
theorem wd_s_10 : Cond.selects "PageHold" ⟨"PageHold", "putRow", "(III)I"⟩ ⟨"PageHold", "putRow", "(III)I"⟩ ∈ BIG := bg_sel (y := ⟨"PageHold", "putRow", "(III)I"⟩) 9 10 (by decide +kernel)
theorem wd_s_11 : Cond.selects "PageHold" ⟨"PageHold", "writeSurplus", "()V"⟩ ⟨"PageHold", "writeSurplus", "()V"⟩ ∈ BIG := bg_sel (y := ⟨"PageHold", "writeSurplus", "()V"⟩) 9 11 (by decide +kernel)
theorem wd_s_12 : Cond.selects "PageHold" ⟨"PageHold", "makeHole", "(I)Z"⟩ ⟨"PageHold", "makeHole", "(I)Z"⟩ ∈ BIG := bg_sel (y := ⟨"PageHold", "makeHole", "(I)Z"⟩) 9 12 (by decide +kernel)
theorem wd_s_13 : Cond.selects "PageHold" ⟨"PageHold", "cutLastPage", "(II)Z"⟩ ⟨"PageHold", "cutLastPage", "(II)Z"⟩ ∈ BIG := bg_sel (y := ⟨"PageHold", "cutLastPage", "(II)Z"⟩) 9 13 (by decide +kernel)
theorem wd_s_14 : Cond.selects "PageHold" ⟨"PageHold", "leastDirtyBlock", "(I)I"⟩ ⟨"PageHold", "leastDirtyBlock", "(I)I"⟩ ∈ BIG := bg_sel (y := ⟨"PageHold", "leastDirtyBlock", "(I)I"⟩) 9 14 (by decide +kernel)
theorem wd_s_15 : Cond.selects "PageHold" ⟨"PageHold", "dirtyBlockIn", "(I)I"⟩ ⟨"PageHold", "dirtyBlockIn", "(I)I"⟩ ∈ BIG := bg_sel (y := ⟨"PageHold", "dirtyBlockIn", "(I)I"⟩) 9 15 (by decide +kernel)
theorem wd_s_16 : Cond.selects "PageHold" ⟨"PageHold", "dirtyFrameAt", "(I)I"⟩ ⟨"PageHold", "dirtyFrameAt", "(I)I"⟩ ∈ BIG := bg_sel (y := ⟨"PageHold", "dirtyFrameAt", "(I)I"⟩) 9 16 (by decide +kernel)
theorem wd_s_17 : Cond.selects "PageHold" ⟨"PageHold", "writeAged", "()I"⟩ ⟨"PageHold", "writeAged", "()I"⟩ ∈ BIG := bg_sel (y := ⟨"PageHold", "writeAged", "()I"⟩) 9 17 (by decide +kernel)
theorem wd_s_18 : Cond.selects "PageHold" ⟨"PageHold", "isMarked", "(II)Z"⟩ ⟨"PageHold", "isMarked", "(II)Z"⟩ ∈ BIG := bg_sel (y := ⟨"PageHold", "isMarked", "(II)Z"⟩) 9 18 (by decide +kernel)
theorem wd_s_19 : Cond.selects "PageHold" ⟨"PageHold", "treeHeight", "(I)I"⟩ ⟨"PageHold", "treeHeight", "(I)I"⟩ ∈ BIG := bg_sel (y := ⟨"PageHold", "treeHeight", "(I)I"⟩) 9 19 (by decide +kernel)
theorem wd_s_20 : Cond.selects "PageHold" ⟨"PageHold", "isEntry", "(I)Z"⟩ ⟨"PageHold", "isEntry", "(I)Z"⟩ ∈ BIG := bg_sel (y := ⟨"PageHold", "isEntry", "(I)Z"⟩) 9 20 (by decide +kernel)
theorem wd_s_21 : Cond.selects "PageHold" ⟨"PageHold", "treeNodes", "(I)I"⟩ ⟨"PageHold", "treeNodes", "(I)I"⟩ ∈ BIG := bg_sel (y := ⟨"PageHold", "treeNodes", "(I)I"⟩) 9 21 (by decide +kernel)
theorem wd_s_22 : Cond.selects "PageHold" ⟨"PageHold", "treeEntries", "(I)I"⟩ ⟨"PageHold", "treeEntries", "(I)I"⟩ ∈ BIG := bg_sel (y := ⟨"PageHold", "treeEntries", "(I)I"⟩) 9 22 (by decide +kernel)
theorem wd_s_23 : Cond.selects "PageHoldModel" ⟨"PageHoldModel", "isIn", "(I)Z"⟩ ⟨"PageHoldModel", "isIn", "(I)Z"⟩ ∈ BIG := bg_sel (y := ⟨"PageHoldModel", "isIn", "(I)Z"⟩) 35 23 (by decide +kernel)
theorem wd_s_24 : Cond.selects "PageHoldModel" ⟨"PageHoldModel", "touch", "(I)Z"⟩ ⟨"PageHoldModel", "touch", "(I)Z"⟩ ∈ BIG := bg_sel (y := ⟨"PageHoldModel", "touch", "(I)Z"⟩) 35 24 (by decide +kernel)
theorem wd_s_25 : Cond.selects "PageHoldModel" ⟨"PageHoldModel", "seenAgain", "(I)V"⟩ ⟨"PageHoldModel", "seenAgain", "(I)V"⟩ ∈ BIG := bg_sel (y := ⟨"PageHoldModel", "seenAgain", "(I)V"⟩) 35 25 (by decide +kernel)
theorem wd_s_26 : Cond.selects "PageHoldModel" ⟨"PageHoldModel", "move", "(IZ)V"⟩ ⟨"PageHoldModel", "move", "(IZ)V"⟩ ∈ BIG := bg_sel (y := ⟨"PageHoldModel", "move", "(IZ)V"⟩) 35 26 (by decide +kernel)
theorem wd_s_27 : Cond.selects "PageHoldModel" ⟨"PageHoldModel", "fromList", "(I)V"⟩ ⟨"PageHoldModel", "fromList", "(I)V"⟩ ∈ BIG := bg_sel (y := ⟨"PageHoldModel", "fromList", "(I)V"⟩) 35 27 (by decide +kernel)
theorem wd_s_28 : Cond.selects "PageHoldModel" ⟨"PageHoldModel", "placeOf", "(I)I"⟩ ⟨"PageHoldModel", "placeOf", "(I)I"⟩ ∈ BIG := bg_sel (y := ⟨"PageHoldModel", "placeOf", "(I)I"⟩) 35 28 (by decide +kernel)
theorem wd_s_29 : Cond.selects "PageHoldModel" ⟨"PageHoldModel", "toFront", "(IZ)V"⟩ ⟨"PageHoldModel", "toFront", "(IZ)V"⟩ ∈ BIG := bg_sel (y := ⟨"PageHoldModel", "toFront", "(IZ)V"⟩) 35 29 (by decide +kernel)
theorem wd_s_30 : Cond.selects "PageHoldModel" ⟨"PageHoldModel", "bringIn", "(I)Z"⟩ ⟨"PageHoldModel", "bringIn", "(I)Z"⟩ ∈ BIG := bg_sel (y := ⟨"PageHoldModel", "bringIn", "(I)Z"⟩) 35 30 (by decide +kernel)
theorem wd_s_31 : Cond.selects "PageHoldModel" ⟨"PageHoldModel", "frame", "()I"⟩ ⟨"PageHoldModel", "frame", "()I"⟩ ∈ BIG := bg_sel (y := ⟨"PageHoldModel", "frame", "()I"⟩) 35 31 (by decide +kernel)
theorem wd_s_32 : Cond.selects "PageHoldModel" ⟨"PageHoldModel", "isDirty", "(I)Z"⟩ ⟨"PageHoldModel", "isDirty", "(I)Z"⟩ ∈ BIG := bg_sel (y := ⟨"PageHoldModel", "isDirty", "(I)Z"⟩) 35 32 (by decide +kernel)
theorem wd_s_33 : Cond.selects "PageHoldModel" ⟨"PageHoldModel", "written", "(I)Z"⟩ ⟨"PageHoldModel", "written", "(I)Z"⟩ ∈ BIG := bg_sel (y := ⟨"PageHoldModel", "written", "(I)Z"⟩) 35 33 (by decide +kernel)
theorem wd_s_34 : Cond.selects "PageHoldModel" ⟨"PageHoldModel", "hasBlock", "(I)Z"⟩ ⟨"PageHoldModel", "hasBlock", "(I)Z"⟩ ∈ BIG := bg_sel (y := ⟨"PageHoldModel", "hasBlock", "(I)Z"⟩) 35 34 (by decide +kernel)
theorem wd_s_35 : Cond.selects "PageHoldModel" ⟨"PageHoldModel", "wrong", "(II)V"⟩ ⟨"PageHoldModel", "wrong", "(II)V"⟩ ∈ BIG := bg_sel (y := ⟨"PageHoldModel", "wrong", "(II)V"⟩) 35 35 (by decide +kernel)
theorem wd_s_36 : Cond.selects "PageHoldModel" ⟨"PageHoldModel", "record", "(II)V"⟩ ⟨"PageHoldModel", "record", "(II)V"⟩ ∈ BIG := bg_sel (y := ⟨"PageHoldModel", "record", "(II)V"⟩) 35 36 (by decide +kernel)
theorem wd_s_37 : Cond.selects "PageHoldModel" ⟨"PageHoldModel", "evict", "(I)V"⟩ ⟨"PageHoldModel", "evict", "(I)V"⟩ ∈ BIG := bg_sel (y := ⟨"PageHoldModel", "evict", "(I)V"⟩) 35 37 (by decide +kernel)
theorem wd_s_38 : Cond.selects "PageHoldModel" ⟨"PageHoldModel", "goOut", "(I)V"⟩ ⟨"PageHoldModel", "goOut", "(I)V"⟩ ∈ BIG := bg_sel (y := ⟨"PageHoldModel", "goOut", "(I)V"⟩) 35 38 (by decide +kernel)
theorem wd_s_39 : Cond.selects "PageHoldModel" ⟨"PageHoldModel", "noShadow", "(I)V"⟩ ⟨"PageHoldModel", "noShadow", "(I)V"⟩ ∈ BIG := bg_sel (y := ⟨"PageHoldModel", "noShadow", "(I)V"⟩) 35 39 (by decide +kernel)
theorem wd_s_40 : Cond.selects "PageHoldModel" ⟨"PageHoldModel", "ahead", "(II)V"⟩ ⟨"PageHoldModel", "ahead", "(II)V"⟩ ∈ BIG := bg_sel (y := ⟨"PageHoldModel", "ahead", "(II)V"⟩) 35 40 (by decide +kernel)
theorem wd_s_41 : Cond.selects "PageHoldModel" ⟨"PageHoldModel", "put", "(IIIZJI)I"⟩ ⟨"PageHoldModel", "put", "(IIIZJI)I"⟩ ∈ BIG := bg_sel (y := ⟨"PageHoldModel", "put", "(IIIZJI)I"⟩) 35 41 (by decide +kernel)
theorem wd_s_42 : Cond.selects "PageHoldModel" ⟨"PageHoldModel", "lessDirty", "()V"⟩ ⟨"PageHoldModel", "lessDirty", "()V"⟩ ∈ BIG := bg_sel (y := ⟨"PageHoldModel", "lessDirty", "()V"⟩) 35 42 (by decide +kernel)
theorem wd_s_43 : Cond.selects "PageHoldModel" ⟨"PageHoldModel", "dirties", "()I"⟩ ⟨"PageHoldModel", "dirties", "()I"⟩ ∈ BIG := bg_sel (y := ⟨"PageHoldModel", "dirties", "()I"⟩) 35 43 (by decide +kernel)
theorem wd_s_44 : Cond.selects "PageHoldModel" ⟨"PageHoldModel", "noneTried", "()V"⟩ ⟨"PageHoldModel", "noneTried", "()V"⟩ ∈ BIG := bg_sel (y := ⟨"PageHoldModel", "noneTried", "()V"⟩) 35 44 (by decide +kernel)
theorem wd_s_45 : Cond.selects "PageHoldModel" ⟨"PageHoldModel", "oldest", "(I)I"⟩ ⟨"PageHoldModel", "oldest", "(I)I"⟩ ∈ BIG := bg_sel (y := ⟨"PageHoldModel", "oldest", "(I)I"⟩) 35 45 (by decide +kernel)
theorem wd_s_46 : Cond.selects "PageHoldModel" ⟨"PageHoldModel", "isHoled", "(I)Z"⟩ ⟨"PageHoldModel", "isHoled", "(I)Z"⟩ ∈ BIG := bg_sel (y := ⟨"PageHoldModel", "isHoled", "(I)Z"⟩) 35 46 (by decide +kernel)
theorem wd_s_47 : Cond.selects "PageHoldModel" ⟨"PageHoldModel", "pins", "()I"⟩ ⟨"PageHoldModel", "pins", "()I"⟩ ∈ BIG := bg_sel (y := ⟨"PageHoldModel", "pins", "()I"⟩) 35 47 (by decide +kernel)
theorem wd_s_48 : Cond.selects "PageHoldModel" ⟨"PageHoldModel", "hasMark", "(II)Z"⟩ ⟨"PageHoldModel", "hasMark", "(II)Z"⟩ ∈ BIG := bg_sel (y := ⟨"PageHoldModel", "hasMark", "(II)Z"⟩) 35 48 (by decide +kernel)
theorem wd_s_49 : Cond.selects "PageHoldModel" ⟨"PageHoldModel", "height", "(I)I"⟩ ⟨"PageHoldModel", "height", "(I)I"⟩ ∈ BIG := bg_sel (y := ⟨"PageHoldModel", "height", "(I)I"⟩) 35 49 (by decide +kernel)
theorem wd_s_50 : Cond.selects "PageHoldModel" ⟨"PageHoldModel", "isEntry", "(I)Z"⟩ ⟨"PageHoldModel", "isEntry", "(I)Z"⟩ ∈ BIG := bg_sel (y := ⟨"PageHoldModel", "isEntry", "(I)Z"⟩) 35 50 (by decide +kernel)
theorem wd_s_51 : Cond.selects "PageHoldModel" ⟨"PageHoldModel", "nodes", "(I)I"⟩ ⟨"PageHoldModel", "nodes", "(I)I"⟩ ∈ BIG := bg_sel (y := ⟨"PageHoldModel", "nodes", "(I)I"⟩) 35 51 (by decide +kernel)
theorem wd_s_52 : Cond.selects "PageHoldModel" ⟨"PageHoldModel", "pagesIn", "()I"⟩ ⟨"PageHoldModel", "pagesIn", "()I"⟩ ∈ BIG := bg_sel (y := ⟨"PageHoldModel", "pagesIn", "()I"⟩) 35 52 (by decide +kernel)
theorem wd_s_53 : Cond.selects "PageHoldModel" ⟨"PageHoldModel", "freeBlocks", "()I"⟩ ⟨"PageHoldModel", "freeBlocks", "()I"⟩ ∈ BIG := bg_sel (y := ⟨"PageHoldModel", "freeBlocks", "()I"⟩) 35 53 (by decide +kernel)
theorem wd_s_54 : Cond.selects "PageHoldModel" ⟨"PageHoldModel", "wrongFiles", "()I"⟩ ⟨"PageHoldModel", "wrongFiles", "()I"⟩ ∈ BIG := bg_sel (y := ⟨"PageHoldModel", "wrongFiles", "()I"⟩) 35 54 (by decide +kernel)
theorem uw_X0 : ∀ w ∈ u_ws RX0 TX0 11, w ∈ BIG := by
  intro w hw
  obtain ⟨k, hk, rfl⟩ := List.mem_map.mp hw
  have hk := List.mem_range.mp hk
  match k, hk with
  | 0, _ => exact tb1 64 rfl rfl
  | 1, _ => exact tb1 66 rfl rfl
  | 2, _ => exact tb1 68 rfl rfl
  | 3, _ => exact tb1 70 rfl rfl
  | 4, _ => exact tb1 72 rfl rfl
  | 5, _ => exact tb1 74 rfl rfl
  | 6, _ => exact tb1 76 rfl rfl
  | 7, _ => exact tb1 78 rfl rfl
  | 8, _ => exact tb1 80 rfl rfl
  | 9, _ => exact tb1 82 rfl rfl
  | 10, _ => exact tb1 84 rfl rfl
  | k + 11, hk => exact absurd hk (by omega)
theorem uw_X1 : ∀ w ∈ u_ws RX1 TX1 4, w ∈ BIG := by
  intro w hw
  obtain ⟨k, hk, rfl⟩ := List.mem_map.mp hw
  have hk := List.mem_range.mp hk
  match k, hk with
  | 0, _ => exact tb1 105 rfl rfl
  | 1, _ => exact tb1 107 rfl rfl
  | 2, _ => exact tb1 109 rfl rfl
  | 3, _ => exact tb1 111 rfl rfl
  | k + 4, hk => exact absurd hk (by omega)
theorem uw_X2 : ∀ w ∈ u_ws RX2 TX2 12, w ∈ BIG := by
  intro w hw
  obtain ⟨k, hk, rfl⟩ := List.mem_map.mp hw
  have hk := List.mem_range.mp hk
  match k, hk with
  | 0, _ => exact tb1 163 rfl rfl
  | 1, _ => exact tb1 165 rfl rfl
  | 2, _ => exact tb1 167 rfl rfl
  | 3, _ => exact tb1 169 rfl rfl
  | 4, _ => exact tb1 171 rfl rfl
  | 5, _ => exact tb1 173 rfl rfl
  | 6, _ => exact tb1 175 rfl rfl
  | 7, _ => exact tb1 177 rfl rfl
  | 8, _ => exact tb1 179 rfl rfl
  | 9, _ => exact tb1 181 rfl rfl
  | 10, _ => exact tb1 183 rfl rfl
  | 11, _ => exact tb1 185 rfl rfl
  | k + 12, hk => exact absurd hk (by omega)
theorem uw_X3 : ∀ w ∈ u_ws RX3 TX3 2, w ∈ BIG := by
  intro w hw
  obtain ⟨k, hk, rfl⟩ := List.mem_map.mp hw
  have hk := List.mem_range.mp hk
  match k, hk with
  | 0, _ => exact tb1 134 rfl rfl
  | 1, _ => exact tb1 136 rfl rfl
  | k + 2, hk => exact absurd hk (by omega)
theorem uw_X4 : ∀ w ∈ u_ws RX4 TX4 4, w ∈ BIG := by
  intro w hw
  obtain ⟨k, hk, rfl⟩ := List.mem_map.mp hw
  have hk := List.mem_range.mp hk
  match k, hk with
  | 0, _ => exact tb1 202 rfl rfl
  | 1, _ => exact tb1 204 rfl rfl
  | 2, _ => exact tb1 206 rfl rfl
  | 3, _ => exact tb1 208 rfl rfl
  | k + 4, hk => exact absurd hk (by omega)
theorem uw_X5 : ∀ w ∈ u_ws RX5 TX5 1, w ∈ BIG := by
  intro w hw
  obtain ⟨k, hk, rfl⟩ := List.mem_map.mp hw
  have hk := List.mem_range.mp hk
  match k, hk with
  | 0, _ => exact tb1 30 rfl rfl
  | k + 1, hk => exact absurd hk (by omega)
theorem uw_X6 : ∀ w ∈ u_ws RX6 TX6 9, w ∈ BIG := by
  intro w hw
  obtain ⟨k, hk, rfl⟩ := List.mem_map.mp hw
  have hk := List.mem_range.mp hk
  match k, hk with
  | 0, _ => exact tb1 221 rfl rfl
  | 1, _ => exact tb1 223 rfl rfl
  | 2, _ => exact tb1 225 rfl rfl
  | 3, _ => exact tb1 227 rfl rfl
  | 4, _ => exact tb1 229 rfl rfl
  | 5, _ => exact tb1 231 rfl rfl
  | 6, _ => exact tb1 233 rfl rfl
  | 7, _ => exact tb1 235 rfl rfl
  | 8, _ => exact tb1 237 rfl rfl
  | k + 9, hk => exact absurd hk (by omega)
theorem uw_X7 : ∀ w ∈ u_ws RX7 TX7 35, w ∈ BIG := by
  intro w hw
  obtain ⟨k, hk, rfl⟩ := List.mem_map.mp hw
  have hk := List.mem_range.mp hk
  match k, hk with
  | 0, _ => exact tb3 174 rfl rfl
  | 1, _ => exact tb3 176 rfl rfl
  | 2, _ => exact tb3 178 rfl rfl
  | 3, _ => exact tb3 180 rfl rfl
  | 4, _ => exact tb3 182 rfl rfl
  | 5, _ => exact tb3 184 rfl rfl
  | 6, _ => exact tb3 186 rfl rfl
  | 7, _ => exact tb3 188 rfl rfl
  | 8, _ => exact tb3 190 rfl rfl
  | 9, _ => exact tb3 192 rfl rfl
  | 10, _ => exact tb3 194 rfl rfl
  | 11, _ => exact tb3 196 rfl rfl
  | 12, _ => exact tb3 198 rfl rfl
  | 13, _ => exact tb3 200 rfl rfl
  | 14, _ => exact tb3 202 rfl rfl
  | 15, _ => exact tb3 204 rfl rfl
  | 16, _ => exact tb3 206 rfl rfl
  | 17, _ => exact tb3 208 rfl rfl
  | 18, _ => exact tb3 210 rfl rfl
  | 19, _ => exact tb3 212 rfl rfl
  | 20, _ => exact tb3 214 rfl rfl
  | 21, _ => exact tb3 216 rfl rfl
  | 22, _ => exact tb3 218 rfl rfl
  | 23, _ => exact tb3 220 rfl rfl
  | 24, _ => exact tb3 222 rfl rfl
  | 25, _ => exact tb3 224 rfl rfl
  | 26, _ => exact tb3 226 rfl rfl
  | 27, _ => exact tb3 228 rfl rfl
  | 28, _ => exact tb3 230 rfl rfl
  | 29, _ => exact tb3 232 rfl rfl
  | 30, _ => exact tb3 234 rfl rfl
  | 31, _ => exact tb3 236 rfl rfl
  | 32, _ => exact tb3 238 rfl rfl
  | 33, _ => exact tb4 0 rfl rfl
  | 34, _ => exact tb4 2 rfl rfl
  | k + 35, hk => exact absurd hk (by omega)
def nstL : List (String × Nat × String × String × String × String) := [("PageHold", 229, "PageHold$Disk", "bytes", "LPageHold$Words;", "PageHold"), ("PageHold", 168, "PageHold$Disk", "fails", "[Z", "PageHold"), ("PageHold", 257, "PageHold$Disk", "free", "I", "PageHold"), ("PageHold", 251, "PageHold$Disk", "reads", "I", "PageHold"), ("PageHold", 254, "PageHold$Disk", "writes", "I", "PageHold"), ("PageHold", 235, "PageHold$Disk", "kinds", "[I", "PageHold"), ("PageHold", 238, "PageHold$Disk", "firsts", "[I", "PageHold"), ("PageHold", 241, "PageHold$Disk", "lengths", "[I", "PageHold"), ("PageHold", 232, "PageHold$Disk", "runs", "I", "PageHold"), ("PageHold", 73, "PageHold$Files", "sizes", "[I", "PageHold"), ("PageHold", 208, "PageHold$Files", "windows", "[I", "PageHold"), ("PageHold", 211, "PageHold$Files", "goOn", "[I", "PageHold"), ("PageHold", 127, "PageHold$Files", "errors", "[I", "PageHold"), ("PageHold$Frames", 92, "PageHold$Order", "count", "I", "PageHold"), ("PageHold", 244, "PageHold$Order", "count", "I", "PageHold"), ("PageHold", 136, "PageHold$Frames", "most", "I", "PageHold"), ("PageHold", 266, "PageHold$Frames", "bytes", "LPageHold$Words;", "PageHold"), ("PageHold", 226, "PageHold$Frames", "spots", "[I", "PageHold"), ("PageHold", 181, "PageHold$Frames", "since", "[I", "PageHold"), ("PageHold", 190, "PageHold$Frames", "referenced", "[Z", "PageHold"), ("PageHold", 146, "PageHold$Frames", "pinned", "[Z", "PageHold"), ("PageHold", 193, "PageHold$Frames", "onActive", "[Z", "PageHold"), ("PageHold", 214, "PageHold$Frames", "active", "LPageHold$Order;", "PageHold"), ("PageHold", 223, "PageHold$Frames", "inactive", "LPageHold$Order;", "PageHold"), ("PageHold", 153, "PageHold$Frames", "dirtyCount", "I", "PageHold"), ("PageHold", 175, "PageHold$Frames", "pinnedCount", "I", "PageHold"), ("PageHold", 247, "PageHold$Shadows", "count", "I", "PageHold"), ("PageHold", 248, "PageHold$Shadows", "evicted", "I", "PageHold")]
def nst (U : State) : Prop := ∀ q ∈ nstL, va_Nw (.fieldLinkNest q.1 q.2.1 q.2.2.1 q.2.2.2.1 q.2.2.2.2.1 q.2.2.2.2.2) U
theorem nst.warm {s U : State} (hW : s.WarmedH U.vm) (h : nst s) : nst U := fun q hq => va_Nw.warmF hW (h q hq)
theorem nst.same {s U : State} (e : s.vm = U.vm) (h : nst s) : nst U := fun q hq => va_Nw.same rfl e (h q hq)
theorem nst.at {s : State} {args : Array Value} {a : String} {i : Nat} {b n d t : String} (h : nst s) (hm : (a, i, b, n, d, t) ∈ nstL) : (Cond.fieldLinkNest a i b n d t).before args s = true := va_Nw.use rfl (h (a, i, b, n, d, t) hm)
theorem nst_tb {args : Array Value} {s : State} (hts : ∀ w ∈ lw_tbl, w.before args s = true) : nst s := by
  have h : ∀ q ∈ nstL, Cond.fieldLinkNest q.1 q.2.1 q.2.2.1 q.2.2.2.1 q.2.2.2.2.1 q.2.2.2.2.2 ∈ tables_1 := by
    refine List.forall_mem_cons.mpr ⟨?_, List.forall_mem_cons.mpr ⟨?_, List.forall_mem_cons.mpr ⟨?_, List.forall_mem_cons.mpr ⟨?_, List.forall_mem_cons.mpr ⟨?_, List.forall_mem_cons.mpr ⟨?_, List.forall_mem_cons.mpr ⟨?_, List.forall_mem_cons.mpr ⟨?_, List.forall_mem_cons.mpr ⟨?_, List.forall_mem_cons.mpr ⟨?_, List.forall_mem_cons.mpr ⟨?_, List.forall_mem_cons.mpr ⟨?_, List.forall_mem_cons.mpr ⟨?_, List.forall_mem_cons.mpr ⟨?_, List.forall_mem_cons.mpr ⟨?_, List.forall_mem_cons.mpr ⟨?_, List.forall_mem_cons.mpr ⟨?_, List.forall_mem_cons.mpr ⟨?_, List.forall_mem_cons.mpr ⟨?_, List.forall_mem_cons.mpr ⟨?_, List.forall_mem_cons.mpr ⟨?_, List.forall_mem_cons.mpr ⟨?_, List.forall_mem_cons.mpr ⟨?_, List.forall_mem_cons.mpr ⟨?_, List.forall_mem_cons.mpr ⟨?_, List.forall_mem_cons.mpr ⟨?_, List.forall_mem_cons.mpr ⟨?_, List.forall_mem_cons.mpr ⟨?_, fun _ h => absurd h List.not_mem_nil⟩⟩⟩⟩⟩⟩⟩⟩⟩⟩⟩⟩⟩⟩⟩⟩⟩⟩⟩⟩⟩⟩⟩⟩⟩⟩⟩⟩
    · exact List.mem_append_left _ (List.mem_of_getElem? (l := tables_1_1) (i := 45) rfl)
    · exact List.mem_append_left _ (List.mem_of_getElem? (l := tables_1_1) (i := 47) rfl)
    · exact List.mem_append_left _ (List.mem_of_getElem? (l := tables_1_1) (i := 50) rfl)
    · exact List.mem_append_left _ (List.mem_of_getElem? (l := tables_1_1) (i := 52) rfl)
    · exact List.mem_append_left _ (List.mem_of_getElem? (l := tables_1_1) (i := 54) rfl)
    · exact List.mem_append_left _ (List.mem_of_getElem? (l := tables_1_1) (i := 56) rfl)
    · exact List.mem_append_left _ (List.mem_of_getElem? (l := tables_1_1) (i := 58) rfl)
    · exact List.mem_append_left _ (List.mem_of_getElem? (l := tables_1_1) (i := 60) rfl)
    · exact List.mem_append_left _ (List.mem_of_getElem? (l := tables_1_1) (i := 62) rfl)
    · exact List.mem_append_left _ (List.mem_of_getElem? (l := tables_1_1) (i := 98) rfl)
    · exact List.mem_append_left _ (List.mem_of_getElem? (l := tables_1_1) (i := 100) rfl)
    · exact List.mem_append_left _ (List.mem_of_getElem? (l := tables_1_1) (i := 102) rfl)
    · exact List.mem_append_left _ (List.mem_of_getElem? (l := tables_1_1) (i := 104) rfl)
    · exact List.mem_append_left _ (List.mem_of_getElem? (l := tables_1_1) (i := 132) rfl)
    · exact List.mem_append_left _ (List.mem_of_getElem? (l := tables_1_1) (i := 133) rfl)
    · exact List.mem_append_left _ (List.mem_of_getElem? (l := tables_1_1) (i := 141) rfl)
    · exact List.mem_append_left _ (List.mem_of_getElem? (l := tables_1_1) (i := 143) rfl)
    · exact List.mem_append_left _ (List.mem_of_getElem? (l := tables_1_1) (i := 145) rfl)
    · exact List.mem_append_left _ (List.mem_of_getElem? (l := tables_1_1) (i := 147) rfl)
    · exact List.mem_append_left _ (List.mem_of_getElem? (l := tables_1_1) (i := 149) rfl)
    · exact List.mem_append_left _ (List.mem_of_getElem? (l := tables_1_1) (i := 151) rfl)
    · exact List.mem_append_left _ (List.mem_of_getElem? (l := tables_1_1) (i := 153) rfl)
    · exact List.mem_append_left _ (List.mem_of_getElem? (l := tables_1_1) (i := 156) rfl)
    · exact List.mem_append_left _ (List.mem_of_getElem? (l := tables_1_1) (i := 158) rfl)
    · exact List.mem_append_left _ (List.mem_of_getElem? (l := tables_1_1) (i := 160) rfl)
    · exact List.mem_append_left _ (List.mem_of_getElem? (l := tables_1_1) (i := 162) rfl)
    · exact List.mem_append_left _ (List.mem_of_getElem? (l := tables_1_1) (i := 199) rfl)
    · exact List.mem_append_left _ (List.mem_of_getElem? (l := tables_1_1) (i := 201) rfl)
  exact fun q hq => va_Nw.of rfl (hts _ (List.mem_append_right _ (h q hq)))
theorem nl_0 : ("PageHold", 229, "PageHold$Disk", "bytes", "LPageHold$Words;", "PageHold") ∈ nstL := List.mem_of_getElem? (i := 0) rfl
theorem nl_1 : ("PageHold", 168, "PageHold$Disk", "fails", "[Z", "PageHold") ∈ nstL := List.mem_of_getElem? (i := 1) rfl
theorem nl_2 : ("PageHold", 257, "PageHold$Disk", "free", "I", "PageHold") ∈ nstL := List.mem_of_getElem? (i := 2) rfl
theorem nl_3 : ("PageHold", 251, "PageHold$Disk", "reads", "I", "PageHold") ∈ nstL := List.mem_of_getElem? (i := 3) rfl
theorem nl_4 : ("PageHold", 254, "PageHold$Disk", "writes", "I", "PageHold") ∈ nstL := List.mem_of_getElem? (i := 4) rfl
theorem nl_5 : ("PageHold", 235, "PageHold$Disk", "kinds", "[I", "PageHold") ∈ nstL := List.mem_of_getElem? (i := 5) rfl
theorem nl_6 : ("PageHold", 238, "PageHold$Disk", "firsts", "[I", "PageHold") ∈ nstL := List.mem_of_getElem? (i := 6) rfl
theorem nl_7 : ("PageHold", 241, "PageHold$Disk", "lengths", "[I", "PageHold") ∈ nstL := List.mem_of_getElem? (i := 7) rfl
theorem nl_8 : ("PageHold", 232, "PageHold$Disk", "runs", "I", "PageHold") ∈ nstL := List.mem_of_getElem? (i := 8) rfl
theorem nl_9 : ("PageHold", 73, "PageHold$Files", "sizes", "[I", "PageHold") ∈ nstL := List.mem_of_getElem? (i := 9) rfl
theorem nl_10 : ("PageHold", 208, "PageHold$Files", "windows", "[I", "PageHold") ∈ nstL := List.mem_of_getElem? (i := 10) rfl
theorem nl_11 : ("PageHold", 211, "PageHold$Files", "goOn", "[I", "PageHold") ∈ nstL := List.mem_of_getElem? (i := 11) rfl
theorem nl_12 : ("PageHold", 127, "PageHold$Files", "errors", "[I", "PageHold") ∈ nstL := List.mem_of_getElem? (i := 12) rfl
theorem nl_13 : ("PageHold$Frames", 92, "PageHold$Order", "count", "I", "PageHold") ∈ nstL := List.mem_of_getElem? (i := 13) rfl
theorem nl_14 : ("PageHold", 244, "PageHold$Order", "count", "I", "PageHold") ∈ nstL := List.mem_of_getElem? (i := 14) rfl
theorem nl_15 : ("PageHold", 136, "PageHold$Frames", "most", "I", "PageHold") ∈ nstL := List.mem_of_getElem? (i := 15) rfl
theorem nl_16 : ("PageHold", 266, "PageHold$Frames", "bytes", "LPageHold$Words;", "PageHold") ∈ nstL := List.mem_of_getElem? (i := 16) rfl
theorem nl_17 : ("PageHold", 226, "PageHold$Frames", "spots", "[I", "PageHold") ∈ nstL := List.mem_of_getElem? (i := 17) rfl
theorem nl_18 : ("PageHold", 181, "PageHold$Frames", "since", "[I", "PageHold") ∈ nstL := List.mem_of_getElem? (i := 18) rfl
theorem nl_19 : ("PageHold", 190, "PageHold$Frames", "referenced", "[Z", "PageHold") ∈ nstL := List.mem_of_getElem? (i := 19) rfl
theorem nl_20 : ("PageHold", 146, "PageHold$Frames", "pinned", "[Z", "PageHold") ∈ nstL := List.mem_of_getElem? (i := 20) rfl
theorem nl_21 : ("PageHold", 193, "PageHold$Frames", "onActive", "[Z", "PageHold") ∈ nstL := List.mem_of_getElem? (i := 21) rfl
theorem nl_22 : ("PageHold", 214, "PageHold$Frames", "active", "LPageHold$Order;", "PageHold") ∈ nstL := List.mem_of_getElem? (i := 22) rfl
theorem nl_23 : ("PageHold", 223, "PageHold$Frames", "inactive", "LPageHold$Order;", "PageHold") ∈ nstL := List.mem_of_getElem? (i := 23) rfl
theorem nl_24 : ("PageHold", 153, "PageHold$Frames", "dirtyCount", "I", "PageHold") ∈ nstL := List.mem_of_getElem? (i := 24) rfl
theorem nl_25 : ("PageHold", 175, "PageHold$Frames", "pinnedCount", "I", "PageHold") ∈ nstL := List.mem_of_getElem? (i := 25) rfl
theorem nl_26 : ("PageHold", 247, "PageHold$Shadows", "count", "I", "PageHold") ∈ nstL := List.mem_of_getElem? (i := 26) rfl
theorem nl_27 : ("PageHold", 248, "PageHold$Shadows", "evicted", "I", "PageHold") ∈ nstL := List.mem_of_getElem? (i := 27) rfl
