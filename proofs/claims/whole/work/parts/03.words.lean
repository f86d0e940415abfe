/-- the words that hold of the tables alone: all contracts stand over these -/
def wsG : List Cond := lw_tbl.filter goodWord
theorem xg_tab {w : Cond} (h : w ∈ tables_1) (g : goodWord w = true) : w ∈ wsG := List.mem_filter.mpr ⟨List.mem_append_right _ h, g⟩
theorem xg_sel {w : Cond} (h : w ∈ k2_sels lw_privs) (g : goodWord w = true) : w ∈ wsG := List.mem_filter.mpr ⟨List.mem_append_left _ h, g⟩
theorem xg_good {w : Cond} (h : w ∈ wsG) : goodWord w = true := (List.mem_filter.mp h).2
theorem xg_tbl {w : Cond} (h : w ∈ wsG) : w ∈ lw_tbl := (List.mem_filter.mp h).1
theorem xc1 {w : Cond} (h : w ∈ tables_1_1) : w ∈ tables_1 := List.mem_append_left _ h
theorem xc2 {w : Cond} (h : w ∈ tables_1_2) : w ∈ tables_1 := List.mem_append_right _ (List.mem_append_left _ h)
theorem xc3 {w : Cond} (h : w ∈ tables_1_3) : w ∈ tables_1 := List.mem_append_right _ (List.mem_append_right _ (List.mem_append_left _ h))
theorem xc4 {w : Cond} (h : w ∈ tables_1_4) : w ∈ tables_1 := List.mem_append_right _ (List.mem_append_right _ (List.mem_append_right _ (List.mem_append_left _ h)))
theorem xc5 {w : Cond} (h : w ∈ tables_1_5) : w ∈ tables_1 := List.mem_append_right _ (List.mem_append_right _ (List.mem_append_right _ (List.mem_append_right _ h)))
theorem kw_0 : (Jvm.Cond.initialized "ContractLoadersLaw") ∈ wsG := xg_tab (xc1 (List.mem_of_getElem? (i := 0) rfl)) rfl
theorem kw_1 : (Jvm.Cond.initialized "ContractLoaders") ∈ wsG := xg_tab (xc1 (List.mem_of_getElem? (i := 1) rfl)) rfl
theorem kw_2 : (Jvm.Cond.initialized "ContractLoaders$Library") ∈ wsG := xg_tab (xc1 (List.mem_of_getElem? (i := 2) rfl)) rfl
theorem kw_3 : (Jvm.Cond.initialized "ContractLoaders$Loader") ∈ wsG := xg_tab (xc1 (List.mem_of_getElem? (i := 3) rfl)) rfl
theorem kw_4 : (Jvm.Cond.initialized "ContractLoaders$Machine") ∈ wsG := xg_tab (xc1 (List.mem_of_getElem? (i := 4) rfl)) rfl
theorem kw_5 : (Jvm.Cond.initialized "ContractLoaders$Rows") ∈ wsG := xg_tab (xc1 (List.mem_of_getElem? (i := 5) rfl)) rfl
theorem kw_6 : (Jvm.Cond.initialized "ContractLoadersModel") ∈ wsG := xg_tab (xc1 (List.mem_of_getElem? (i := 6) rfl)) rfl
theorem kw_7 : (Jvm.Cond.initialized "ContractLoaders$ClassFile") ∈ wsG := xg_tab (xc1 (List.mem_of_getElem? (i := 7) rfl)) rfl
theorem kw_8 : (Jvm.Cond.initialized "ContractLoaders$LoadedClass") ∈ wsG := xg_tab (xc1 (List.mem_of_getElem? (i := 8) rfl)) rfl
theorem kw_9 : (Jvm.Cond.initialized "ContractLoaders$Contract") ∈ wsG := xg_tab (xc1 (List.mem_of_getElem? (i := 9) rfl)) rfl
theorem kw_10 : (Jvm.Cond.initialized "java/lang/System") ∈ wsG := xg_tab (xc1 (List.mem_of_getElem? (i := 10) rfl)) rfl
theorem kw_11 : (Jvm.Cond.initialized "java/lang/Math") ∈ wsG := xg_tab (xc1 (List.mem_of_getElem? (i := 11) rfl)) rfl
theorem kw_12 : (Jvm.Cond.initialized "ContractLoaders$Frame") ∈ wsG := xg_tab (xc1 (List.mem_of_getElem? (i := 12) rfl)) rfl
theorem kw_13 : (Jvm.Cond.initialized "java/lang/Double") ∈ wsG := xg_tab (xc1 (List.mem_of_getElem? (i := 13) rfl)) rfl
theorem kw_14 : (Jvm.Cond.initialized "java/lang/Throwable") ∈ wsG := xg_tab (xc1 (List.mem_of_getElem? (i := 14) rfl)) rfl
theorem kw_15 : (Jvm.Cond.initialized "java/lang/Exception") ∈ wsG := xg_tab (xc1 (List.mem_of_getElem? (i := 15) rfl)) rfl
theorem kw_16 : (Jvm.Cond.initialized "java/lang/RuntimeException") ∈ wsG := xg_tab (xc1 (List.mem_of_getElem? (i := 16) rfl)) rfl
theorem kw_17 : (Jvm.Cond.initialized "java/lang/IllegalArgumentException") ∈ wsG := xg_tab (xc1 (List.mem_of_getElem? (i := 17) rfl)) rfl
theorem kw_18 : (Jvm.Cond.classLink "ContractLoadersLaw" (8 : Nat) "ContractLoaders") ∈ wsG := xg_tab (xc1 (List.mem_of_getElem? (i := 18) rfl)) rfl
theorem kw_19 : (Jvm.Cond.instantiable "ContractLoaders" (2 : Nat)) ∈ wsG := xg_tab (xc1 (List.mem_of_getElem? (i := 19) rfl)) rfl
theorem kw_20 : (Jvm.Cond.methodLink "ContractLoadersLaw" (15 : Nat) ({ cls := "ContractLoaders", name := "<init>", desc := "()V" } : Jvm.MethodName)) ∈ wsG := xg_tab (xc1 (List.mem_of_getElem? (i := 20) rfl)) rfl
theorem kw_21 : (Jvm.Cond.instanceMethod ({ cls := "ContractLoaders", name := "<init>", desc := "()V" } : Jvm.MethodName)) ∈ wsG := xg_tab (xc1 (List.mem_of_getElem? (i := 21) rfl)) rfl
theorem kw_22 : (Jvm.Cond.code ({ cls := "ContractLoaders", name := "<init>", desc := "()V" } : Jvm.MethodName) prog_1_method_1_code (1 : Nat) (Option.none : Option Jvm.ClassFile.FieldType)) ∈ wsG := xg_tab (xc1 (List.mem_of_getElem? (i := 22) rfl)) rfl
theorem kw_23 : (Jvm.Cond.methodLink "ContractLoaders" (3 : Nat) ({ cls := "java/lang/Object", name := "<init>", desc := "()V" } : Jvm.MethodName)) ∈ wsG := xg_tab (xc1 (List.mem_of_getElem? (i := 23) rfl)) rfl
theorem kw_24 : (Jvm.Cond.instanceMethod ({ cls := "java/lang/Object", name := "<init>", desc := "()V" } : Jvm.MethodName)) ∈ wsG := xg_tab (xc1 (List.mem_of_getElem? (i := 24) rfl)) rfl
theorem kw_25 : (Jvm.Cond.code ({ cls := "java/lang/Object", name := "<init>", desc := "()V" } : Jvm.MethodName) object_method_1_code (1 : Nat) (Option.none : Option Jvm.ClassFile.FieldType)) ∈ wsG := xg_tab (xc1 (List.mem_of_getElem? (i := 25) rfl)) rfl
theorem kw_26 : (Jvm.Cond.classLink "ContractLoaders" (9 : Nat) "ContractLoaders$Library") ∈ wsG := xg_tab (xc1 (List.mem_of_getElem? (i := 26) rfl)) rfl
theorem kw_27 : (Jvm.Cond.instantiable "ContractLoaders$Library" (6 : Nat)) ∈ wsG := xg_tab (xc1 (List.mem_of_getElem? (i := 27) rfl)) rfl
theorem kw_28 : (Jvm.Cond.methodLink "ContractLoaders" (11 : Nat) ({ cls := "ContractLoaders$Library", name := "<init>", desc := "()V" } : Jvm.MethodName)) ∈ wsG := xg_tab (xc1 (List.mem_of_getElem? (i := 28) rfl)) rfl
theorem kw_29 : (Jvm.Cond.instanceMethod ({ cls := "ContractLoaders$Library", name := "<init>", desc := "()V" } : Jvm.MethodName)) ∈ wsG := xg_tab (xc1 (List.mem_of_getElem? (i := 29) rfl)) rfl
theorem kw_30 : (Jvm.Cond.code ({ cls := "ContractLoaders$Library", name := "<init>", desc := "()V" } : Jvm.MethodName) prog_5_method_1_code (1 : Nat) (Option.none : Option Jvm.ClassFile.FieldType)) ∈ wsG := xg_tab (xc1 (List.mem_of_getElem? (i := 30) rfl)) rfl
theorem kw_31 : (Jvm.Cond.methodLink "ContractLoaders$Library" (3 : Nat) ({ cls := "java/lang/Object", name := "<init>", desc := "()V" } : Jvm.MethodName)) ∈ wsG := xg_tab (xc1 (List.mem_of_getElem? (i := 31) rfl)) rfl
theorem kw_32 : (Jvm.Cond.classLink "ContractLoaders$Library" (9 : Nat) "ContractLoaders$ClassFile") ∈ wsG := xg_tab (xc1 (List.mem_of_getElem? (i := 32) rfl)) rfl
theorem kw_33 : (Jvm.Cond.arrayOver (Jvm.ClassFile.FieldType.object "ContractLoaders$ClassFile")) ∈ tables_1 := xc1 (List.mem_of_getElem? (i := 33) rfl)
theorem kw_34 : (Jvm.Cond.classLink "ContractLoaders$Library" (17 : Nat) "ContractLoaders$Loader") ∈ wsG := xg_tab (xc1 (List.mem_of_getElem? (i := 34) rfl)) rfl
theorem kw_35 : (Jvm.Cond.arrayOver (Jvm.ClassFile.FieldType.object "ContractLoaders$Loader")) ∈ tables_1 := xc1 (List.mem_of_getElem? (i := 35) rfl)
theorem kw_36 : (Jvm.Cond.instantiable "ContractLoaders$Loader" (5 : Nat)) ∈ wsG := xg_tab (xc1 (List.mem_of_getElem? (i := 36) rfl)) rfl
theorem kw_37 : (Jvm.Cond.methodLink "ContractLoaders$Library" (23 : Nat) ({ cls := "ContractLoaders$Loader", name := "<init>", desc := "(ILContractLoaders$Loader;)V" } : Jvm.MethodName)) ∈ wsG := xg_tab (xc1 (List.mem_of_getElem? (i := 37) rfl)) rfl
theorem kw_38 : (Jvm.Cond.instanceMethod ({ cls := "ContractLoaders$Loader", name := "<init>", desc := "(ILContractLoaders$Loader;)V" } : Jvm.MethodName)) ∈ wsG := xg_tab (xc1 (List.mem_of_getElem? (i := 38) rfl)) rfl
theorem kw_39 : (Jvm.Cond.code ({ cls := "ContractLoaders$Loader", name := "<init>", desc := "(ILContractLoaders$Loader;)V" } : Jvm.MethodName) prog_7_method_1_code (3 : Nat) (Option.none : Option Jvm.ClassFile.FieldType)) ∈ wsG := xg_tab (xc1 (List.mem_of_getElem? (i := 39) rfl)) rfl
theorem kw_40 : (Jvm.Cond.methodLink "ContractLoaders$Loader" (3 : Nat) ({ cls := "java/lang/Object", name := "<init>", desc := "()V" } : Jvm.MethodName)) ∈ wsG := xg_tab (xc1 (List.mem_of_getElem? (i := 40) rfl)) rfl
theorem kw_41 : (Jvm.Cond.classLink "ContractLoaders$Loader" (9 : Nat) "ContractLoaders$LoadedClass") ∈ wsG := xg_tab (xc1 (List.mem_of_getElem? (i := 41) rfl)) rfl
theorem kw_42 : (Jvm.Cond.arrayOver (Jvm.ClassFile.FieldType.object "ContractLoaders$LoadedClass")) ∈ tables_1 := xc1 (List.mem_of_getElem? (i := 42) rfl)
theorem kw_43 : (Jvm.Cond.fieldLink "ContractLoaders$Loader" (17 : Nat) "ContractLoaders$Loader" "number" "I") ∈ wsG := xg_tab (xc1 (List.mem_of_getElem? (i := 43) rfl)) rfl
theorem kw_44 : (Jvm.Cond.fieldLink "ContractLoaders$LoadedClass" (27 : Nat) "ContractLoaders$Loader" "number" "I") ∈ wsG := xg_tab (xc1 (List.mem_of_getElem? (i := 44) rfl)) rfl
theorem kw_45 : (Jvm.Cond.fieldLink "ContractLoaders$Library" (118 : Nat) "ContractLoaders$Loader" "number" "I") ∈ wsG := xg_tab (xc1 (List.mem_of_getElem? (i := 45) rfl)) rfl
theorem kw_46 : (Jvm.Cond.fieldLink "ContractLoaders" (212 : Nat) "ContractLoaders$Loader" "number" "I") ∈ wsG := xg_tab (xc1 (List.mem_of_getElem? (i := 46) rfl)) rfl
theorem kw_47 : (Jvm.Cond.fieldLink "ContractLoaders$Loader" (21 : Nat) "ContractLoaders$Loader" "parent" "LContractLoaders$Loader;") ∈ wsG := xg_tab (xc1 (List.mem_of_getElem? (i := 47) rfl)) rfl
theorem kw_48 : (Jvm.Cond.fieldLink "ContractLoaders$Library" (80 : Nat) "ContractLoaders$Loader" "parent" "LContractLoaders$Loader;") ∈ wsG := xg_tab (xc1 (List.mem_of_getElem? (i := 48) rfl)) rfl
theorem kw_49 : (Jvm.Cond.fieldLink "ContractLoaders" (214 : Nat) "ContractLoaders$Loader" "parent" "LContractLoaders$Loader;") ∈ wsG := xg_tab (xc1 (List.mem_of_getElem? (i := 49) rfl)) rfl
theorem kw_50 : (Jvm.Cond.fieldLink "ContractLoaders$Loader" (11 : Nat) "ContractLoaders$Loader" "offers" "[LContractLoaders$LoadedClass;") ∈ wsG := xg_tab (xc1 (List.mem_of_getElem? (i := 50) rfl)) rfl
theorem kw_51 : (Jvm.Cond.fieldLink "ContractLoaders" (85 : Nat) "ContractLoaders$Loader" "offers" "[LContractLoaders$LoadedClass;") ∈ wsG := xg_tab (xc1 (List.mem_of_getElem? (i := 51) rfl)) rfl
theorem kw_52 : (Jvm.Cond.fieldLink "ContractLoaders$Library" (54 : Nat) "ContractLoaders$Loader" "offers" "[LContractLoaders$LoadedClass;") ∈ wsG := xg_tab (xc1 (List.mem_of_getElem? (i := 52) rfl)) rfl
theorem kw_53 : (Jvm.Cond.fieldLink "ContractLoaders$Loader" (34 : Nat) "ContractLoaders$Loader" "offerCount" "I") ∈ wsG := xg_tab (xc1 (List.mem_of_getElem? (i := 53) rfl)) rfl
theorem kw_54 : (Jvm.Cond.fieldLink "ContractLoaders" (220 : Nat) "ContractLoaders$Loader" "offerCount" "I") ∈ wsG := xg_tab (xc1 (List.mem_of_getElem? (i := 54) rfl)) rfl
theorem kw_55 : (Jvm.Cond.fieldLink "ContractLoaders$Loader" (37 : Nat) "ContractLoaders$Loader" "thereCount" "I") ∈ wsG := xg_tab (xc1 (List.mem_of_getElem? (i := 55) rfl)) rfl
theorem kw_56 : (Jvm.Cond.fieldLink "ContractLoaders$Library" (33 : Nat) "ContractLoaders$Loader" "thereCount" "I") ∈ wsG := xg_tab (xc1 (List.mem_of_getElem? (i := 56) rfl)) rfl
theorem kw_57 : (Jvm.Cond.fieldLink "ContractLoaders" (217 : Nat) "ContractLoaders$Loader" "thereCount" "I") ∈ wsG := xg_tab (xc1 (List.mem_of_getElem? (i := 57) rfl)) rfl
theorem kw_58 : (Jvm.Cond.laysFinal "ContractLoaders$Loader" "ContractLoaders$Loader" "number" "I") ∈ wsG := xg_tab (xc1 (List.mem_of_getElem? (i := 58) rfl)) rfl
theorem kw_59 : (Jvm.Cond.soleField "ContractLoaders$Loader" "number") ∈ tables_1 := xc1 (List.mem_of_getElem? (i := 59) rfl)
theorem kw_60 : (Jvm.Cond.laysFinal "ContractLoaders$Loader" "ContractLoaders$Loader" "parent" "LContractLoaders$Loader;") ∈ wsG := xg_tab (xc1 (List.mem_of_getElem? (i := 60) rfl)) rfl
theorem kw_61 : (Jvm.Cond.soleField "ContractLoaders$Loader" "parent") ∈ tables_1 := xc1 (List.mem_of_getElem? (i := 61) rfl)
theorem kw_62 : (Jvm.Cond.laysFinal "ContractLoaders$Loader" "ContractLoaders$Loader" "offers" "[LContractLoaders$LoadedClass;") ∈ wsG := xg_tab (xc1 (List.mem_of_getElem? (i := 62) rfl)) rfl
theorem kw_63 : (Jvm.Cond.soleField "ContractLoaders$Loader" "offers") ∈ tables_1 := xc1 (List.mem_of_getElem? (i := 63) rfl)
theorem kw_64 : (Jvm.Cond.lays "ContractLoaders$Loader" "ContractLoaders$Loader" "offerCount" "I") ∈ wsG := xg_tab (xc1 (List.mem_of_getElem? (i := 64) rfl)) rfl
theorem kw_65 : (Jvm.Cond.soleField "ContractLoaders$Loader" "offerCount") ∈ tables_1 := xc1 (List.mem_of_getElem? (i := 65) rfl)
theorem kw_66 : (Jvm.Cond.lays "ContractLoaders$Loader" "ContractLoaders$Loader" "thereCount" "I") ∈ wsG := xg_tab (xc1 (List.mem_of_getElem? (i := 66) rfl)) rfl
theorem kw_67 : (Jvm.Cond.soleField "ContractLoaders$Loader" "thereCount") ∈ tables_1 := xc1 (List.mem_of_getElem? (i := 67) rfl)
theorem kw_68 : (Jvm.Cond.superclass "ContractLoaders$Loader" "java/lang/Object") ∈ tables_1 := xc1 (List.mem_of_getElem? (i := 68) rfl)
theorem kw_69 : (Jvm.Cond.fieldLink "ContractLoaders$Library" (11 : Nat) "ContractLoaders$Library" "files" "[LContractLoaders$ClassFile;") ∈ wsG := xg_tab (xc1 (List.mem_of_getElem? (i := 69) rfl)) rfl
theorem kw_70 : (Jvm.Cond.fieldLink "ContractLoaders$Library" (19 : Nat) "ContractLoaders$Library" "loaders" "[LContractLoaders$Loader;") ∈ wsG := xg_tab (xc1 (List.mem_of_getElem? (i := 70) rfl)) rfl
theorem kw_71 : (Jvm.Cond.fieldLink "ContractLoaders$Library" (30 : Nat) "ContractLoaders$Library" "fileCount" "I") ∈ wsG := xg_tab (xc1 (List.mem_of_getElem? (i := 71) rfl)) rfl
theorem kw_72 : (Jvm.Cond.fieldLinkNest "ContractLoaders" (32 : Nat) "ContractLoaders$Library" "fileCount" "I" "ContractLoaders") ∈ tables_1 := xc1 (List.mem_of_getElem? (i := 72) rfl)
theorem kw_73 : (Jvm.Cond.fieldLink "ContractLoaders$Library" (26 : Nat) "ContractLoaders$Library" "loaderCount" "I") ∈ wsG := xg_tab (xc1 (List.mem_of_getElem? (i := 73) rfl)) rfl
theorem kw_74 : (Jvm.Cond.fieldLinkNest "ContractLoaders" (78 : Nat) "ContractLoaders$Library" "loaderCount" "I" "ContractLoaders") ∈ tables_1 := xc1 (List.mem_of_getElem? (i := 74) rfl)
theorem kw_75 : (Jvm.Cond.fieldLink "ContractLoaders$Library" (115 : Nat) "ContractLoaders$Library" "made" "I") ∈ wsG := xg_tab (xc1 (List.mem_of_getElem? (i := 75) rfl)) rfl
theorem kw_76 : (Jvm.Cond.fieldLinkNest "ContractLoaders" (197 : Nat) "ContractLoaders$Library" "made" "I" "ContractLoaders") ∈ tables_1 := xc1 (List.mem_of_getElem? (i := 76) rfl)
theorem kw_77 : (Jvm.Cond.fieldLinkNest "ContractLoaders$Machine" (98 : Nat) "ContractLoaders$Library" "failure" "I" "ContractLoaders") ∈ tables_1 := xc1 (List.mem_of_getElem? (i := 77) rfl)
theorem kw_78 : (Jvm.Cond.fieldLinkNest "ContractLoaders" (110 : Nat) "ContractLoaders$Library" "failure" "I" "ContractLoaders") ∈ tables_1 := xc1 (List.mem_of_getElem? (i := 78) rfl)
theorem kw_79 : (Jvm.Cond.fieldLink "ContractLoaders$Library" (73 : Nat) "ContractLoaders$Library" "failure" "I") ∈ wsG := xg_tab (xc1 (List.mem_of_getElem? (i := 79) rfl)) rfl
theorem kw_80 : (Jvm.Cond.laysFinal "ContractLoaders$Library" "ContractLoaders$Library" "files" "[LContractLoaders$ClassFile;") ∈ wsG := xg_tab (xc1 (List.mem_of_getElem? (i := 80) rfl)) rfl
theorem kw_81 : (Jvm.Cond.soleField "ContractLoaders$Library" "files") ∈ tables_1 := xc1 (List.mem_of_getElem? (i := 81) rfl)
theorem kw_82 : (Jvm.Cond.laysFinal "ContractLoaders$Library" "ContractLoaders$Library" "loaders" "[LContractLoaders$Loader;") ∈ wsG := xg_tab (xc1 (List.mem_of_getElem? (i := 82) rfl)) rfl
theorem kw_83 : (Jvm.Cond.soleField "ContractLoaders$Library" "loaders") ∈ tables_1 := xc1 (List.mem_of_getElem? (i := 83) rfl)
theorem kw_84 : (Jvm.Cond.lays "ContractLoaders$Library" "ContractLoaders$Library" "fileCount" "I") ∈ wsG := xg_tab (xc1 (List.mem_of_getElem? (i := 84) rfl)) rfl
theorem kw_85 : (Jvm.Cond.soleField "ContractLoaders$Library" "fileCount") ∈ tables_1 := xc1 (List.mem_of_getElem? (i := 85) rfl)
theorem kw_86 : (Jvm.Cond.lays "ContractLoaders$Library" "ContractLoaders$Library" "loaderCount" "I") ∈ wsG := xg_tab (xc1 (List.mem_of_getElem? (i := 86) rfl)) rfl
theorem kw_87 : (Jvm.Cond.soleField "ContractLoaders$Library" "loaderCount") ∈ tables_1 := xc1 (List.mem_of_getElem? (i := 87) rfl)
theorem kw_88 : (Jvm.Cond.lays "ContractLoaders$Library" "ContractLoaders$Library" "made" "I") ∈ wsG := xg_tab (xc1 (List.mem_of_getElem? (i := 88) rfl)) rfl
theorem kw_89 : (Jvm.Cond.soleField "ContractLoaders$Library" "made") ∈ tables_1 := xc1 (List.mem_of_getElem? (i := 89) rfl)
theorem kw_90 : (Jvm.Cond.lays "ContractLoaders$Library" "ContractLoaders$Library" "failure" "I") ∈ wsG := xg_tab (xc1 (List.mem_of_getElem? (i := 90) rfl)) rfl
theorem kw_91 : (Jvm.Cond.soleField "ContractLoaders$Library" "failure") ∈ tables_1 := xc1 (List.mem_of_getElem? (i := 91) rfl)
theorem kw_92 : (Jvm.Cond.superclass "ContractLoaders$Library" "java/lang/Object") ∈ tables_1 := xc1 (List.mem_of_getElem? (i := 92) rfl)
theorem kw_93 : (Jvm.Cond.classLink "ContractLoaders" (16 : Nat) "ContractLoaders$Machine") ∈ wsG := xg_tab (xc1 (List.mem_of_getElem? (i := 93) rfl)) rfl
theorem kw_94 : (Jvm.Cond.instantiable "ContractLoaders$Machine" (13 : Nat)) ∈ wsG := xg_tab (xc1 (List.mem_of_getElem? (i := 94) rfl)) rfl
theorem kw_95 : (Jvm.Cond.methodLink "ContractLoaders" (18 : Nat) ({ cls := "ContractLoaders$Machine", name := "<init>", desc := "(LContractLoaders$Library;)V" } : Jvm.MethodName)) ∈ wsG := xg_tab (xc1 (List.mem_of_getElem? (i := 95) rfl)) rfl
theorem kw_96 : (Jvm.Cond.instanceMethod ({ cls := "ContractLoaders$Machine", name := "<init>", desc := "(LContractLoaders$Library;)V" } : Jvm.MethodName)) ∈ wsG := xg_tab (xc1 (List.mem_of_getElem? (i := 96) rfl)) rfl
theorem kw_97 : (Jvm.Cond.code ({ cls := "ContractLoaders$Machine", name := "<init>", desc := "(LContractLoaders$Library;)V" } : Jvm.MethodName) prog_8_method_1_code (2 : Nat) (Option.none : Option Jvm.ClassFile.FieldType)) ∈ wsG := xg_tab (xc1 (List.mem_of_getElem? (i := 97) rfl)) rfl
theorem kw_98 : (Jvm.Cond.methodLink "ContractLoaders$Machine" (3 : Nat) ({ cls := "java/lang/Object", name := "<init>", desc := "()V" } : Jvm.MethodName)) ∈ wsG := xg_tab (xc1 (List.mem_of_getElem? (i := 98) rfl)) rfl
theorem kw_99 : (Jvm.Cond.classLink "ContractLoaders$Machine" (9 : Nat) "ContractLoaders$Contract") ∈ wsG := xg_tab (xc1 (List.mem_of_getElem? (i := 99) rfl)) rfl
theorem kw_100 : (Jvm.Cond.arrayOver (Jvm.ClassFile.FieldType.object "ContractLoaders$Contract")) ∈ tables_1 := xc1 (List.mem_of_getElem? (i := 100) rfl)
theorem kw_101 : (Jvm.Cond.classLink "ContractLoaders$Machine" (17 : Nat) "ContractLoaders$Rows") ∈ wsG := xg_tab (xc1 (List.mem_of_getElem? (i := 101) rfl)) rfl
theorem kw_102 : (Jvm.Cond.instantiable "ContractLoaders$Rows" (2 : Nat)) ∈ wsG := xg_tab (xc1 (List.mem_of_getElem? (i := 102) rfl)) rfl
theorem kw_103 : (Jvm.Cond.methodLinkNest "ContractLoaders$Machine" (19 : Nat) ({ cls := "ContractLoaders$Rows", name := "<init>", desc := "()V" } : Jvm.MethodName) "ContractLoaders") ∈ tables_1 := xc1 (List.mem_of_getElem? (i := 103) rfl)
theorem kw_104 : (Jvm.Cond.instanceMethod ({ cls := "ContractLoaders$Rows", name := "<init>", desc := "()V" } : Jvm.MethodName)) ∈ wsG := xg_tab (xc1 (List.mem_of_getElem? (i := 104) rfl)) rfl
theorem kw_105 : (Jvm.Cond.code ({ cls := "ContractLoaders$Rows", name := "<init>", desc := "()V" } : Jvm.MethodName) prog_9_method_1_code (1 : Nat) (Option.none : Option Jvm.ClassFile.FieldType)) ∈ wsG := xg_tab (xc1 (List.mem_of_getElem? (i := 105) rfl)) rfl
theorem kw_106 : (Jvm.Cond.methodLink "ContractLoaders$Rows" (3 : Nat) ({ cls := "java/lang/Object", name := "<init>", desc := "()V" } : Jvm.MethodName)) ∈ wsG := xg_tab (xc1 (List.mem_of_getElem? (i := 106) rfl)) rfl
theorem kw_107 : (Jvm.Cond.fieldLink "ContractLoaders$Rows" (9 : Nat) "ContractLoaders$Rows" "numbers" "[J") ∈ wsG := xg_tab (xc1 (List.mem_of_getElem? (i := 107) rfl)) rfl
theorem kw_108 : (Jvm.Cond.fieldLink "ContractLoaders$Rows" (15 : Nat) "ContractLoaders$Rows" "doubles" "[D") ∈ wsG := xg_tab (xc1 (List.mem_of_getElem? (i := 108) rfl)) rfl
theorem kw_109 : (Jvm.Cond.laysFinal "ContractLoaders$Rows" "ContractLoaders$Rows" "numbers" "[J") ∈ wsG := xg_tab (xc1 (List.mem_of_getElem? (i := 109) rfl)) rfl
theorem kw_110 : (Jvm.Cond.soleField "ContractLoaders$Rows" "numbers") ∈ tables_1 := xc1 (List.mem_of_getElem? (i := 110) rfl)
theorem kw_111 : (Jvm.Cond.laysFinal "ContractLoaders$Rows" "ContractLoaders$Rows" "doubles" "[D") ∈ wsG := xg_tab (xc1 (List.mem_of_getElem? (i := 111) rfl)) rfl
theorem kw_112 : (Jvm.Cond.soleField "ContractLoaders$Rows" "doubles") ∈ tables_1 := xc1 (List.mem_of_getElem? (i := 112) rfl)
theorem kw_113 : (Jvm.Cond.superclass "ContractLoaders$Rows" "java/lang/Object") ∈ tables_1 := xc1 (List.mem_of_getElem? (i := 113) rfl)
theorem kw_114 : (Jvm.Cond.arrayClass Jvm.ClassFile.FieldType.long) ∈ wsG := xg_tab (xc1 (List.mem_of_getElem? (i := 114) rfl)) rfl
theorem kw_115 : (Jvm.Cond.arrayClass Jvm.ClassFile.FieldType.double) ∈ wsG := xg_tab (xc1 (List.mem_of_getElem? (i := 115) rfl)) rfl
theorem kw_116 : (Jvm.Cond.classLink "ContractLoaders$Machine" (27 : Nat) "ContractLoaders$Frame") ∈ wsG := xg_tab (xc1 (List.mem_of_getElem? (i := 116) rfl)) rfl
theorem kw_117 : (Jvm.Cond.arrayOver (Jvm.ClassFile.FieldType.object "ContractLoaders$Frame")) ∈ tables_1 := xc1 (List.mem_of_getElem? (i := 117) rfl)
theorem kw_118 : (Jvm.Cond.fieldLink "ContractLoaders$Machine" (33 : Nat) "ContractLoaders$Machine" "library" "LContractLoaders$Library;") ∈ wsG := xg_tab (xc1 (List.mem_of_getElem? (i := 118) rfl)) rfl
theorem kw_119 : (Jvm.Cond.fieldLink "ContractLoaders$Machine" (11 : Nat) "ContractLoaders$Machine" "contracts" "[LContractLoaders$Contract;") ∈ wsG := xg_tab (xc1 (List.mem_of_getElem? (i := 119) rfl)) rfl
theorem kw_120 : (Jvm.Cond.fieldLink "ContractLoaders$Machine" (37 : Nat) "ContractLoaders$Machine" "contractCount" "I") ∈ wsG := xg_tab (xc1 (List.mem_of_getElem? (i := 120) rfl)) rfl
theorem kw_121 : (Jvm.Cond.fieldLinkNest "ContractLoaders" (122 : Nat) "ContractLoaders$Machine" "contractCount" "I" "ContractLoaders") ∈ tables_1 := xc1 (List.mem_of_getElem? (i := 121) rfl)
theorem kw_122 : (Jvm.Cond.fieldLink "ContractLoaders$Machine" (20 : Nat) "ContractLoaders$Machine" "rows" "LContractLoaders$Rows;") ∈ wsG := xg_tab (xc1 (List.mem_of_getElem? (i := 122) rfl)) rfl
theorem kw_123 : (Jvm.Cond.fieldLinkNest "ContractLoaders" (153 : Nat) "ContractLoaders$Machine" "rows" "LContractLoaders$Rows;" "ContractLoaders") ∈ tables_1 := xc1 (List.mem_of_getElem? (i := 123) rfl)
theorem kw_124 : (Jvm.Cond.fieldLink "ContractLoaders$Machine" (24 : Nat) "ContractLoaders$Machine" "rowsOutside" "LContractLoaders$Rows;") ∈ wsG := xg_tab (xc1 (List.mem_of_getElem? (i := 124) rfl)) rfl
theorem kw_125 : (Jvm.Cond.fieldLink "ContractLoaders$Machine" (29 : Nat) "ContractLoaders$Machine" "frames" "[LContractLoaders$Frame;") ∈ wsG := xg_tab (xc1 (List.mem_of_getElem? (i := 125) rfl)) rfl
theorem kw_126 : (Jvm.Cond.fieldLink "ContractLoaders$Machine" (56 : Nat) "ContractLoaders$Machine" "frameCount" "I") ∈ wsG := xg_tab (xc1 (List.mem_of_getElem? (i := 126) rfl)) rfl
theorem kw_127 : (Jvm.Cond.fieldLink "ContractLoaders$Machine" (70 : Nat) "ContractLoaders$Machine" "inWork" "I") ∈ wsG := xg_tab (xc1 (List.mem_of_getElem? (i := 127) rfl)) rfl
theorem kw_128 : (Jvm.Cond.fieldLink "ContractLoaders$Machine" (76 : Nat) "ContractLoaders$Machine" "mostInWork" "I") ∈ wsG := xg_tab (xc1 (List.mem_of_getElem? (i := 128) rfl)) rfl
theorem kw_129 : (Jvm.Cond.fieldLinkNest "ContractLoaders" (206 : Nat) "ContractLoaders$Machine" "mostInWork" "I" "ContractLoaders") ∈ tables_1 := xc1 (List.mem_of_getElem? (i := 129) rfl)
theorem kw_130 : (Jvm.Cond.fieldLink "ContractLoaders$Machine" (73 : Nat) "ContractLoaders$Machine" "begun" "I") ∈ wsG := xg_tab (xc1 (List.mem_of_getElem? (i := 130) rfl)) rfl
theorem kw_131 : (Jvm.Cond.fieldLinkNest "ContractLoaders" (203 : Nat) "ContractLoaders$Machine" "begun" "I" "ContractLoaders") ∈ tables_1 := xc1 (List.mem_of_getElem? (i := 131) rfl)
theorem kw_132 : (Jvm.Cond.fieldLink "ContractLoaders$Machine" (147 : Nat) "ContractLoaders$Machine" "steps" "I") ∈ wsG := xg_tab (xc1 (List.mem_of_getElem? (i := 132) rfl)) rfl
theorem kw_133 : (Jvm.Cond.fieldLinkNest "ContractLoaders" (200 : Nat) "ContractLoaders$Machine" "steps" "I" "ContractLoaders") ∈ tables_1 := xc1 (List.mem_of_getElem? (i := 133) rfl)
theorem kw_134 : (Jvm.Cond.fieldLink "ContractLoaders$Machine" (48 : Nat) "ContractLoaders$Machine" "current" "J") ∈ wsG := xg_tab (xc1 (List.mem_of_getElem? (i := 134) rfl)) rfl
theorem kw_135 : (Jvm.Cond.fieldLink "ContractLoaders$Machine" (67 : Nat) "ContractLoaders$Machine" "lastValue" "J") ∈ wsG := xg_tab (xc1 (List.mem_of_getElem? (i := 135) rfl)) rfl
theorem kw_136 : (Jvm.Cond.fieldLinkNest "ContractLoaders" (171 : Nat) "ContractLoaders$Machine" "lastValue" "J" "ContractLoaders") ∈ tables_1 := xc1 (List.mem_of_getElem? (i := 136) rfl)
theorem kw_137 : (Jvm.Cond.laysFinal "ContractLoaders$Machine" "ContractLoaders$Machine" "library" "LContractLoaders$Library;") ∈ wsG := xg_tab (xc1 (List.mem_of_getElem? (i := 137) rfl)) rfl
theorem kw_138 : (Jvm.Cond.soleField "ContractLoaders$Machine" "library") ∈ tables_1 := xc1 (List.mem_of_getElem? (i := 138) rfl)
theorem kw_139 : (Jvm.Cond.laysFinal "ContractLoaders$Machine" "ContractLoaders$Machine" "contracts" "[LContractLoaders$Contract;") ∈ wsG := xg_tab (xc1 (List.mem_of_getElem? (i := 139) rfl)) rfl
theorem kw_140 : (Jvm.Cond.soleField "ContractLoaders$Machine" "contracts") ∈ tables_1 := xc1 (List.mem_of_getElem? (i := 140) rfl)
theorem kw_141 : (Jvm.Cond.lays "ContractLoaders$Machine" "ContractLoaders$Machine" "contractCount" "I") ∈ wsG := xg_tab (xc1 (List.mem_of_getElem? (i := 141) rfl)) rfl
theorem kw_142 : (Jvm.Cond.soleField "ContractLoaders$Machine" "contractCount") ∈ tables_1 := xc1 (List.mem_of_getElem? (i := 142) rfl)
theorem kw_143 : (Jvm.Cond.laysFinal "ContractLoaders$Machine" "ContractLoaders$Machine" "rows" "LContractLoaders$Rows;") ∈ wsG := xg_tab (xc1 (List.mem_of_getElem? (i := 143) rfl)) rfl
theorem kw_144 : (Jvm.Cond.soleField "ContractLoaders$Machine" "rows") ∈ tables_1 := xc1 (List.mem_of_getElem? (i := 144) rfl)
theorem kw_145 : (Jvm.Cond.laysFinal "ContractLoaders$Machine" "ContractLoaders$Machine" "rowsOutside" "LContractLoaders$Rows;") ∈ wsG := xg_tab (xc1 (List.mem_of_getElem? (i := 145) rfl)) rfl
theorem kw_146 : (Jvm.Cond.soleField "ContractLoaders$Machine" "rowsOutside") ∈ tables_1 := xc1 (List.mem_of_getElem? (i := 146) rfl)
theorem kw_147 : (Jvm.Cond.laysFinal "ContractLoaders$Machine" "ContractLoaders$Machine" "frames" "[LContractLoaders$Frame;") ∈ wsG := xg_tab (xc1 (List.mem_of_getElem? (i := 147) rfl)) rfl
theorem kw_148 : (Jvm.Cond.soleField "ContractLoaders$Machine" "frames") ∈ tables_1 := xc1 (List.mem_of_getElem? (i := 148) rfl)
theorem kw_149 : (Jvm.Cond.lays "ContractLoaders$Machine" "ContractLoaders$Machine" "frameCount" "I") ∈ wsG := xg_tab (xc1 (List.mem_of_getElem? (i := 149) rfl)) rfl
theorem kw_150 : (Jvm.Cond.soleField "ContractLoaders$Machine" "frameCount") ∈ tables_1 := xc1 (List.mem_of_getElem? (i := 150) rfl)
theorem kw_151 : (Jvm.Cond.lays "ContractLoaders$Machine" "ContractLoaders$Machine" "inWork" "I") ∈ wsG := xg_tab (xc1 (List.mem_of_getElem? (i := 151) rfl)) rfl
theorem kw_152 : (Jvm.Cond.soleField "ContractLoaders$Machine" "inWork") ∈ tables_1 := xc1 (List.mem_of_getElem? (i := 152) rfl)
theorem kw_153 : (Jvm.Cond.lays "ContractLoaders$Machine" "ContractLoaders$Machine" "mostInWork" "I") ∈ wsG := xg_tab (xc1 (List.mem_of_getElem? (i := 153) rfl)) rfl
theorem kw_154 : (Jvm.Cond.soleField "ContractLoaders$Machine" "mostInWork") ∈ tables_1 := xc1 (List.mem_of_getElem? (i := 154) rfl)
theorem kw_155 : (Jvm.Cond.lays "ContractLoaders$Machine" "ContractLoaders$Machine" "begun" "I") ∈ wsG := xg_tab (xc1 (List.mem_of_getElem? (i := 155) rfl)) rfl
theorem kw_156 : (Jvm.Cond.soleField "ContractLoaders$Machine" "begun") ∈ tables_1 := xc1 (List.mem_of_getElem? (i := 156) rfl)
theorem kw_157 : (Jvm.Cond.lays "ContractLoaders$Machine" "ContractLoaders$Machine" "steps" "I") ∈ wsG := xg_tab (xc1 (List.mem_of_getElem? (i := 157) rfl)) rfl
theorem kw_158 : (Jvm.Cond.soleField "ContractLoaders$Machine" "steps") ∈ tables_1 := xc1 (List.mem_of_getElem? (i := 158) rfl)
theorem kw_159 : (Jvm.Cond.lays "ContractLoaders$Machine" "ContractLoaders$Machine" "current" "J") ∈ wsG := xg_tab (xc1 (List.mem_of_getElem? (i := 159) rfl)) rfl
theorem kw_160 : (Jvm.Cond.soleField "ContractLoaders$Machine" "current") ∈ tables_1 := xc1 (List.mem_of_getElem? (i := 160) rfl)
theorem kw_161 : (Jvm.Cond.lays "ContractLoaders$Machine" "ContractLoaders$Machine" "lastValue" "J") ∈ wsG := xg_tab (xc1 (List.mem_of_getElem? (i := 161) rfl)) rfl
theorem kw_162 : (Jvm.Cond.soleField "ContractLoaders$Machine" "lastValue") ∈ tables_1 := xc1 (List.mem_of_getElem? (i := 162) rfl)
theorem kw_163 : (Jvm.Cond.superclass "ContractLoaders$Machine" "java/lang/Object") ∈ tables_1 := xc1 (List.mem_of_getElem? (i := 163) rfl)
theorem kw_164 : (Jvm.Cond.fieldLink "ContractLoaders" (12 : Nat) "ContractLoaders" "library" "LContractLoaders$Library;") ∈ wsG := xg_tab (xc1 (List.mem_of_getElem? (i := 164) rfl)) rfl
theorem kw_165 : (Jvm.Cond.fieldLink "ContractLoaders" (21 : Nat) "ContractLoaders" "machine" "LContractLoaders$Machine;") ∈ wsG := xg_tab (xc1 (List.mem_of_getElem? (i := 165) rfl)) rfl
theorem kw_166 : (Jvm.Cond.laysFinal "ContractLoaders" "ContractLoaders" "library" "LContractLoaders$Library;") ∈ wsG := xg_tab (xc1 (List.mem_of_getElem? (i := 166) rfl)) rfl
theorem kw_167 : (Jvm.Cond.soleField "ContractLoaders" "library") ∈ tables_1 := xc1 (List.mem_of_getElem? (i := 167) rfl)
theorem kw_168 : (Jvm.Cond.laysFinal "ContractLoaders" "ContractLoaders" "machine" "LContractLoaders$Machine;") ∈ wsG := xg_tab (xc1 (List.mem_of_getElem? (i := 168) rfl)) rfl
theorem kw_169 : (Jvm.Cond.soleField "ContractLoaders" "machine") ∈ tables_1 := xc1 (List.mem_of_getElem? (i := 169) rfl)
theorem kw_170 : (Jvm.Cond.superclass "ContractLoaders" "java/lang/Object") ∈ tables_1 := xc1 (List.mem_of_getElem? (i := 170) rfl)
theorem kw_171 : (Jvm.Cond.methodLink "ContractLoadersLaw" (19 : Nat) ({ cls := "ContractLoaders", name := "file", desc := "(IIZZI)I" } : Jvm.MethodName)) ∈ wsG := xg_tab (xc1 (List.mem_of_getElem? (i := 171) rfl)) rfl
theorem kw_172 : (Jvm.Cond.instanceMethod ({ cls := "ContractLoaders", name := "file", desc := "(IIZZI)I" } : Jvm.MethodName)) ∈ wsG := xg_tab (xc1 (List.mem_of_getElem? (i := 172) rfl)) rfl
theorem kw_173 : (Jvm.Cond.selects "ContractLoaders" ({ cls := "ContractLoaders", name := "file", desc := "(IIZZI)I" } : Jvm.MethodName) ({ cls := "ContractLoaders", name := "file", desc := "(IIZZI)I" } : Jvm.MethodName)) ∈ wsG := xg_tab (xc1 (List.mem_of_getElem? (i := 173) rfl)) rfl
theorem kw_174 : (Jvm.Cond.code ({ cls := "ContractLoaders", name := "file", desc := "(IIZZI)I" } : Jvm.MethodName) prog_1_method_2_code (6 : Nat) (Option.some Jvm.ClassFile.FieldType.int)) ∈ wsG := xg_tab (xc1 (List.mem_of_getElem? (i := 174) rfl)) rfl
theorem kw_175 : (Jvm.Cond.methodLink "ContractLoaders" (25 : Nat) ({ cls := "ContractLoaders", name := "isName", desc := "(I)Z" } : Jvm.MethodName)) ∈ wsG := xg_tab (xc1 (List.mem_of_getElem? (i := 175) rfl)) rfl
theorem kw_176 : (Jvm.Cond.static ({ cls := "ContractLoaders", name := "isName", desc := "(I)Z" } : Jvm.MethodName)) ∈ wsG := xg_tab (xc1 (List.mem_of_getElem? (i := 176) rfl)) rfl
theorem kw_177 : (Jvm.Cond.code ({ cls := "ContractLoaders", name := "isName", desc := "(I)Z" } : Jvm.MethodName) prog_1_method_23_code (1 : Nat) (Option.some Jvm.ClassFile.FieldType.boolean)) ∈ wsG := xg_tab (xc1 (List.mem_of_getElem? (i := 177) rfl)) rfl
theorem kw_178 : (Jvm.Cond.methodLink "ContractLoaders" (29 : Nat) ({ cls := "ContractLoaders", name := "isLane", desc := "(I)Z" } : Jvm.MethodName)) ∈ wsG := xg_tab (xc1 (List.mem_of_getElem? (i := 178) rfl)) rfl
theorem kw_179 : (Jvm.Cond.static ({ cls := "ContractLoaders", name := "isLane", desc := "(I)Z" } : Jvm.MethodName)) ∈ wsG := xg_tab (xc1 (List.mem_of_getElem? (i := 179) rfl)) rfl
theorem kw_180 : (Jvm.Cond.code ({ cls := "ContractLoaders", name := "isLane", desc := "(I)Z" } : Jvm.MethodName) prog_1_method_24_code (1 : Nat) (Option.some Jvm.ClassFile.FieldType.boolean)) ∈ wsG := xg_tab (xc1 (List.mem_of_getElem? (i := 180) rfl)) rfl
theorem kw_181 : (Jvm.Cond.classLink "ContractLoaders" (36 : Nat) "ContractLoaders$ClassFile") ∈ wsG := xg_tab (xc1 (List.mem_of_getElem? (i := 181) rfl)) rfl
theorem kw_182 : (Jvm.Cond.instantiable "ContractLoaders$ClassFile" (12 : Nat)) ∈ wsG := xg_tab (xc1 (List.mem_of_getElem? (i := 182) rfl)) rfl
theorem kw_183 : (Jvm.Cond.methodLink "ContractLoaders" (38 : Nat) ({ cls := "ContractLoaders$ClassFile", name := "<init>", desc := "(IIZZI)V" } : Jvm.MethodName)) ∈ wsG := xg_tab (xc1 (List.mem_of_getElem? (i := 183) rfl)) rfl
theorem kw_184 : (Jvm.Cond.instanceMethod ({ cls := "ContractLoaders$ClassFile", name := "<init>", desc := "(IIZZI)V" } : Jvm.MethodName)) ∈ wsG := xg_tab (xc1 (List.mem_of_getElem? (i := 184) rfl)) rfl
theorem kw_185 : (Jvm.Cond.code ({ cls := "ContractLoaders$ClassFile", name := "<init>", desc := "(IIZZI)V" } : Jvm.MethodName) prog_2_method_1_code (6 : Nat) (Option.none : Option Jvm.ClassFile.FieldType)) ∈ wsG := xg_tab (xc1 (List.mem_of_getElem? (i := 185) rfl)) rfl
theorem kw_186 : (Jvm.Cond.methodLink "ContractLoaders$ClassFile" (3 : Nat) ({ cls := "java/lang/Object", name := "<init>", desc := "()V" } : Jvm.MethodName)) ∈ wsG := xg_tab (xc1 (List.mem_of_getElem? (i := 186) rfl)) rfl
theorem kw_187 : (Jvm.Cond.fieldLink "ContractLoaders$ClassFile" (27 : Nat) "ContractLoaders$ClassFile" "inner" "I") ∈ wsG := xg_tab (xc1 (List.mem_of_getElem? (i := 187) rfl)) rfl
theorem kw_188 : (Jvm.Cond.fieldLink "ContractLoaders$Library" (124 : Nat) "ContractLoaders$ClassFile" "inner" "I") ∈ wsG := xg_tab (xc1 (List.mem_of_getElem? (i := 188) rfl)) rfl
theorem kw_189 : (Jvm.Cond.fieldLink "ContractLoaders$ClassFile" (31 : Nat) "ContractLoaders$ClassFile" "superName" "I") ∈ wsG := xg_tab (xc1 (List.mem_of_getElem? (i := 189) rfl)) rfl
theorem kw_190 : (Jvm.Cond.fieldLink "ContractLoaders$ClassFile" (34 : Nat) "ContractLoaders$ClassFile" "face" "Z") ∈ wsG := xg_tab (xc1 (List.mem_of_getElem? (i := 190) rfl)) rfl
theorem kw_191 : (Jvm.Cond.fieldLink "ContractLoaders$LoadedClass" (46 : Nat) "ContractLoaders$ClassFile" "face" "Z") ∈ wsG := xg_tab (xc1 (List.mem_of_getElem? (i := 191) rfl)) rfl
theorem kw_192 : (Jvm.Cond.fieldLink "ContractLoaders$Library" (46 : Nat) "ContractLoaders$ClassFile" "face" "Z") ∈ wsG := xg_tab (xc1 (List.mem_of_getElem? (i := 192) rfl)) rfl
theorem kw_193 : (Jvm.Cond.fieldLink "ContractLoaders$ClassFile" (38 : Nat) "ContractLoaders$ClassFile" "last" "Z") ∈ wsG := xg_tab (xc1 (List.mem_of_getElem? (i := 193) rfl)) rfl
theorem kw_194 : (Jvm.Cond.fieldLink "ContractLoaders$LoadedClass" (51 : Nat) "ContractLoaders$ClassFile" "last" "Z") ∈ wsG := xg_tab (xc1 (List.mem_of_getElem? (i := 194) rfl)) rfl
theorem kw_195 : (Jvm.Cond.fieldLink "ContractLoaders$ClassFile" (41 : Nat) "ContractLoaders$ClassFile" "lane" "I") ∈ wsG := xg_tab (xc1 (List.mem_of_getElem? (i := 195) rfl)) rfl
theorem kw_196 : (Jvm.Cond.fieldLink "ContractLoaders$Machine" (197 : Nat) "ContractLoaders$ClassFile" "lane" "I") ∈ wsG := xg_tab (xc1 (List.mem_of_getElem? (i := 196) rfl)) rfl
theorem kw_197 : (Jvm.Cond.fieldLink "ContractLoaders" (132 : Nat) "ContractLoaders$ClassFile" "lane" "I") ∈ wsG := xg_tab (xc1 (List.mem_of_getElem? (i := 197) rfl)) rfl
theorem kw_198 : (Jvm.Cond.fieldLink "ContractLoaders$ClassFile" (9 : Nat) "ContractLoaders$ClassFile" "faces" "[I") ∈ wsG := xg_tab (xc1 (List.mem_of_getElem? (i := 198) rfl)) rfl
theorem kw_199 : (Jvm.Cond.fieldLink "ContractLoaders$ClassFile" (44 : Nat) "ContractLoaders$ClassFile" "faceCount" "I") ∈ wsG := xg_tab (xc1 (List.mem_of_getElem? (i := 199) rfl)) rfl
theorem kw_200 : (Jvm.Cond.fieldLink "ContractLoaders" (53 : Nat) "ContractLoaders$ClassFile" "faceCount" "I") ∈ wsG := xg_tab (xc1 (List.mem_of_getElem? (i := 200) rfl)) rfl
theorem kw_201 : (Jvm.Cond.fieldLink "ContractLoaders$ClassFile" (15 : Nat) "ContractLoaders$ClassFile" "actCounts" "[I") ∈ wsG := xg_tab (xc1 (List.mem_of_getElem? (i := 201) rfl)) rfl
theorem kw_202 : (Jvm.Cond.fieldLink "ContractLoaders$ClassFile" (18 : Nat) "ContractLoaders$ClassFile" "kinds" "[I") ∈ wsG := xg_tab (xc1 (List.mem_of_getElem? (i := 202) rfl)) rfl
theorem kw_203 : (Jvm.Cond.fieldLink "ContractLoaders$Machine" (166 : Nat) "ContractLoaders$ClassFile" "kinds" "[I") ∈ wsG := xg_tab (xc1 (List.mem_of_getElem? (i := 203) rfl)) rfl
theorem kw_204 : (Jvm.Cond.fieldLink "ContractLoaders$ClassFile" (21 : Nat) "ContractLoaders$ClassFile" "as" "[I") ∈ wsG := xg_tab (xc1 (List.mem_of_getElem? (i := 204) rfl)) rfl
theorem kw_205 : (Jvm.Cond.fieldLink "ContractLoaders$Machine" (159 : Nat) "ContractLoaders$ClassFile" "as" "[I") ∈ wsG := xg_tab (xc1 (List.mem_of_getElem? (i := 205) rfl)) rfl
theorem kw_206 : (Jvm.Cond.fieldLink "ContractLoaders$ClassFile" (24 : Nat) "ContractLoaders$ClassFile" "bs" "[I") ∈ wsG := xg_tab (xc1 (List.mem_of_getElem? (i := 206) rfl)) rfl
theorem kw_207 : (Jvm.Cond.fieldLink "ContractLoaders$Machine" (163 : Nat) "ContractLoaders$ClassFile" "bs" "[I") ∈ wsG := xg_tab (xc1 (List.mem_of_getElem? (i := 207) rfl)) rfl
theorem kw_208 : (Jvm.Cond.fieldLink "ContractLoaders$Loader" (25 : Nat) "ContractLoaders$ClassFile" "offered" "Z") ∈ wsG := xg_tab (xc1 (List.mem_of_getElem? (i := 208) rfl)) rfl
theorem kw_209 : (Jvm.Cond.fieldLink "ContractLoaders" (49 : Nat) "ContractLoaders$ClassFile" "offered" "Z") ∈ wsG := xg_tab (xc1 (List.mem_of_getElem? (i := 209) rfl)) rfl
theorem kw_210 : (Jvm.Cond.laysFinal "ContractLoaders$ClassFile" "ContractLoaders$ClassFile" "inner" "I") ∈ wsG := xg_tab (xc1 (List.mem_of_getElem? (i := 210) rfl)) rfl
theorem kw_211 : (Jvm.Cond.soleField "ContractLoaders$ClassFile" "inner") ∈ tables_1 := xc1 (List.mem_of_getElem? (i := 211) rfl)
theorem kw_212 : (Jvm.Cond.laysFinal "ContractLoaders$ClassFile" "ContractLoaders$ClassFile" "superName" "I") ∈ wsG := xg_tab (xc1 (List.mem_of_getElem? (i := 212) rfl)) rfl
theorem kw_213 : (Jvm.Cond.soleField "ContractLoaders$ClassFile" "superName") ∈ tables_1 := xc1 (List.mem_of_getElem? (i := 213) rfl)
theorem kw_214 : (Jvm.Cond.laysFinal "ContractLoaders$ClassFile" "ContractLoaders$ClassFile" "face" "Z") ∈ wsG := xg_tab (xc1 (List.mem_of_getElem? (i := 214) rfl)) rfl
theorem kw_215 : (Jvm.Cond.soleField "ContractLoaders$ClassFile" "face") ∈ tables_1 := xc1 (List.mem_of_getElem? (i := 215) rfl)
theorem kw_216 : (Jvm.Cond.laysFinal "ContractLoaders$ClassFile" "ContractLoaders$ClassFile" "last" "Z") ∈ wsG := xg_tab (xc1 (List.mem_of_getElem? (i := 216) rfl)) rfl
theorem kw_217 : (Jvm.Cond.soleField "ContractLoaders$ClassFile" "last") ∈ tables_1 := xc1 (List.mem_of_getElem? (i := 217) rfl)
theorem kw_218 : (Jvm.Cond.laysFinal "ContractLoaders$ClassFile" "ContractLoaders$ClassFile" "lane" "I") ∈ wsG := xg_tab (xc1 (List.mem_of_getElem? (i := 218) rfl)) rfl
theorem kw_219 : (Jvm.Cond.soleField "ContractLoaders$ClassFile" "lane") ∈ tables_1 := xc1 (List.mem_of_getElem? (i := 219) rfl)
theorem kw_220 : (Jvm.Cond.laysFinal "ContractLoaders$ClassFile" "ContractLoaders$ClassFile" "faces" "[I") ∈ wsG := xg_tab (xc1 (List.mem_of_getElem? (i := 220) rfl)) rfl
theorem kw_221 : (Jvm.Cond.soleField "ContractLoaders$ClassFile" "faces") ∈ tables_1 := xc1 (List.mem_of_getElem? (i := 221) rfl)
theorem kw_222 : (Jvm.Cond.lays "ContractLoaders$ClassFile" "ContractLoaders$ClassFile" "faceCount" "I") ∈ wsG := xg_tab (xc1 (List.mem_of_getElem? (i := 222) rfl)) rfl
theorem kw_223 : (Jvm.Cond.soleField "ContractLoaders$ClassFile" "faceCount") ∈ tables_1 := xc1 (List.mem_of_getElem? (i := 223) rfl)
theorem kw_224 : (Jvm.Cond.laysFinal "ContractLoaders$ClassFile" "ContractLoaders$ClassFile" "actCounts" "[I") ∈ wsG := xg_tab (xc1 (List.mem_of_getElem? (i := 224) rfl)) rfl
theorem kw_225 : (Jvm.Cond.soleField "ContractLoaders$ClassFile" "actCounts") ∈ tables_1 := xc1 (List.mem_of_getElem? (i := 225) rfl)
theorem kw_226 : (Jvm.Cond.laysFinal "ContractLoaders$ClassFile" "ContractLoaders$ClassFile" "kinds" "[I") ∈ wsG := xg_tab (xc1 (List.mem_of_getElem? (i := 226) rfl)) rfl
theorem kw_227 : (Jvm.Cond.soleField "ContractLoaders$ClassFile" "kinds") ∈ tables_1 := xc1 (List.mem_of_getElem? (i := 227) rfl)
theorem kw_228 : (Jvm.Cond.laysFinal "ContractLoaders$ClassFile" "ContractLoaders$ClassFile" "as" "[I") ∈ wsG := xg_tab (xc1 (List.mem_of_getElem? (i := 228) rfl)) rfl
theorem kw_229 : (Jvm.Cond.soleField "ContractLoaders$ClassFile" "as") ∈ tables_1 := xc1 (List.mem_of_getElem? (i := 229) rfl)
theorem kw_230 : (Jvm.Cond.laysFinal "ContractLoaders$ClassFile" "ContractLoaders$ClassFile" "bs" "[I") ∈ wsG := xg_tab (xc1 (List.mem_of_getElem? (i := 230) rfl)) rfl
theorem kw_231 : (Jvm.Cond.soleField "ContractLoaders$ClassFile" "bs") ∈ tables_1 := xc1 (List.mem_of_getElem? (i := 231) rfl)
theorem kw_232 : (Jvm.Cond.lays "ContractLoaders$ClassFile" "ContractLoaders$ClassFile" "offered" "Z") ∈ wsG := xg_tab (xc1 (List.mem_of_getElem? (i := 232) rfl)) rfl
theorem kw_233 : (Jvm.Cond.soleField "ContractLoaders$ClassFile" "offered") ∈ tables_1 := xc1 (List.mem_of_getElem? (i := 233) rfl)
theorem kw_234 : (Jvm.Cond.superclass "ContractLoaders$ClassFile" "java/lang/Object") ∈ tables_1 := xc1 (List.mem_of_getElem? (i := 234) rfl)
theorem kw_235 : (Jvm.Cond.arrayClass Jvm.ClassFile.FieldType.int) ∈ wsG := xg_tab (xc1 (List.mem_of_getElem? (i := 235) rfl)) rfl
theorem kw_236 : (Jvm.Cond.methodLink "ContractLoaders" (41 : Nat) ({ cls := "ContractLoaders$Library", name := "addFile", desc := "(LContractLoaders$ClassFile;)I" } : Jvm.MethodName)) ∈ wsG := xg_tab (xc1 (List.mem_of_getElem? (i := 236) rfl)) rfl
theorem kw_237 : (Jvm.Cond.instanceMethod ({ cls := "ContractLoaders$Library", name := "addFile", desc := "(LContractLoaders$ClassFile;)I" } : Jvm.MethodName)) ∈ wsG := xg_tab (xc1 (List.mem_of_getElem? (i := 237) rfl)) rfl
theorem kw_238 : (Jvm.Cond.selects "ContractLoaders$Library" ({ cls := "ContractLoaders$Library", name := "addFile", desc := "(LContractLoaders$ClassFile;)I" } : Jvm.MethodName) ({ cls := "ContractLoaders$Library", name := "addFile", desc := "(LContractLoaders$ClassFile;)I" } : Jvm.MethodName)) ∈ wsG := xg_tab (xc1 (List.mem_of_getElem? (i := 238) rfl)) rfl
theorem kw_239 : (Jvm.Cond.code ({ cls := "ContractLoaders$Library", name := "addFile", desc := "(LContractLoaders$ClassFile;)I" } : Jvm.MethodName) prog_5_method_4_code (2 : Nat) (Option.some Jvm.ClassFile.FieldType.int)) ∈ wsG := xg_tab (xc1 (List.mem_of_getElem? (i := 239) rfl)) rfl
theorem kw_240 : (Jvm.Cond.methodLink "ContractLoadersLaw" (24 : Nat) ({ cls := "ContractLoaders", name := "under", desc := "(II)I" } : Jvm.MethodName)) ∈ wsG := xg_tab (xc2 (List.mem_of_getElem? (i := 0) rfl)) rfl
theorem kw_241 : (Jvm.Cond.instanceMethod ({ cls := "ContractLoaders", name := "under", desc := "(II)I" } : Jvm.MethodName)) ∈ wsG := xg_tab (xc2 (List.mem_of_getElem? (i := 1) rfl)) rfl
theorem kw_242 : (Jvm.Cond.selects "ContractLoaders" ({ cls := "ContractLoaders", name := "under", desc := "(II)I" } : Jvm.MethodName) ({ cls := "ContractLoaders", name := "under", desc := "(II)I" } : Jvm.MethodName)) ∈ wsG := xg_tab (xc2 (List.mem_of_getElem? (i := 2) rfl)) rfl
theorem kw_243 : (Jvm.Cond.code ({ cls := "ContractLoaders", name := "under", desc := "(II)I" } : Jvm.MethodName) prog_1_method_3_code (4 : Nat) (Option.some Jvm.ClassFile.FieldType.int)) ∈ wsG := xg_tab (xc2 (List.mem_of_getElem? (i := 3) rfl)) rfl
theorem kw_244 : (Jvm.Cond.methodLink "ContractLoaders" (45 : Nat) ({ cls := "ContractLoaders$Library", name := "fileAt", desc := "(I)LContractLoaders$ClassFile;" } : Jvm.MethodName)) ∈ wsG := xg_tab (xc2 (List.mem_of_getElem? (i := 4) rfl)) rfl
theorem kw_245 : (Jvm.Cond.instanceMethod ({ cls := "ContractLoaders$Library", name := "fileAt", desc := "(I)LContractLoaders$ClassFile;" } : Jvm.MethodName)) ∈ wsG := xg_tab (xc2 (List.mem_of_getElem? (i := 5) rfl)) rfl
theorem kw_246 : (Jvm.Cond.selects "ContractLoaders$Library" ({ cls := "ContractLoaders$Library", name := "fileAt", desc := "(I)LContractLoaders$ClassFile;" } : Jvm.MethodName) ({ cls := "ContractLoaders$Library", name := "fileAt", desc := "(I)LContractLoaders$ClassFile;" } : Jvm.MethodName)) ∈ wsG := xg_tab (xc2 (List.mem_of_getElem? (i := 6) rfl)) rfl
theorem kw_247 : (Jvm.Cond.code ({ cls := "ContractLoaders$Library", name := "fileAt", desc := "(I)LContractLoaders$ClassFile;" } : Jvm.MethodName) prog_5_method_2_code (2 : Nat) (Option.some (Jvm.ClassFile.FieldType.object "ContractLoaders$ClassFile"))) ∈ wsG := xg_tab (xc2 (List.mem_of_getElem? (i := 7) rfl)) rfl
theorem kw_248 : (Jvm.Cond.methodLink "ContractLoaders" (56 : Nat) ({ cls := "ContractLoaders$ClassFile", name := "addFace", desc := "(I)I" } : Jvm.MethodName)) ∈ wsG := xg_tab (xc2 (List.mem_of_getElem? (i := 8) rfl)) rfl
theorem kw_249 : (Jvm.Cond.instanceMethod ({ cls := "ContractLoaders$ClassFile", name := "addFace", desc := "(I)I" } : Jvm.MethodName)) ∈ wsG := xg_tab (xc2 (List.mem_of_getElem? (i := 9) rfl)) rfl
theorem kw_250 : (Jvm.Cond.selects "ContractLoaders$ClassFile" ({ cls := "ContractLoaders$ClassFile", name := "addFace", desc := "(I)I" } : Jvm.MethodName) ({ cls := "ContractLoaders$ClassFile", name := "addFace", desc := "(I)I" } : Jvm.MethodName)) ∈ wsG := xg_tab (xc2 (List.mem_of_getElem? (i := 10) rfl)) rfl
theorem kw_251 : (Jvm.Cond.code ({ cls := "ContractLoaders$ClassFile", name := "addFace", desc := "(I)I" } : Jvm.MethodName) prog_2_method_2_code (2 : Nat) (Option.some Jvm.ClassFile.FieldType.int)) ∈ wsG := xg_tab (xc2 (List.mem_of_getElem? (i := 11) rfl)) rfl
theorem kw_252 : (Jvm.Cond.methodLink "ContractLoadersLaw" (29 : Nat) ({ cls := "ContractLoaders", name := "act", desc := "(IIIII)I" } : Jvm.MethodName)) ∈ wsG := xg_tab (xc2 (List.mem_of_getElem? (i := 12) rfl)) rfl
theorem kw_253 : (Jvm.Cond.instanceMethod ({ cls := "ContractLoaders", name := "act", desc := "(IIIII)I" } : Jvm.MethodName)) ∈ wsG := xg_tab (xc2 (List.mem_of_getElem? (i := 13) rfl)) rfl
theorem kw_254 : (Jvm.Cond.selects "ContractLoaders" ({ cls := "ContractLoaders", name := "act", desc := "(IIIII)I" } : Jvm.MethodName) ({ cls := "ContractLoaders", name := "act", desc := "(IIIII)I" } : Jvm.MethodName)) ∈ wsG := xg_tab (xc2 (List.mem_of_getElem? (i := 14) rfl)) rfl
theorem kw_255 : (Jvm.Cond.code ({ cls := "ContractLoaders", name := "act", desc := "(IIIII)I" } : Jvm.MethodName) prog_1_method_4_code (7 : Nat) (Option.some Jvm.ClassFile.FieldType.int)) ∈ wsG := xg_tab (xc2 (List.mem_of_getElem? (i := 15) rfl)) rfl
theorem kw_256 : (Jvm.Cond.methodLink "ContractLoaders" (60 : Nat) ({ cls := "ContractLoaders", name := "isMethod", desc := "(I)Z" } : Jvm.MethodName)) ∈ wsG := xg_tab (xc2 (List.mem_of_getElem? (i := 16) rfl)) rfl
theorem kw_257 : (Jvm.Cond.static ({ cls := "ContractLoaders", name := "isMethod", desc := "(I)Z" } : Jvm.MethodName)) ∈ wsG := xg_tab (xc2 (List.mem_of_getElem? (i := 17) rfl)) rfl
theorem kw_258 : (Jvm.Cond.code ({ cls := "ContractLoaders", name := "isMethod", desc := "(I)Z" } : Jvm.MethodName) prog_1_method_25_code (1 : Nat) (Option.some Jvm.ClassFile.FieldType.boolean)) ∈ wsG := xg_tab (xc2 (List.mem_of_getElem? (i := 18) rfl)) rfl
theorem kw_259 : (Jvm.Cond.methodLink "ContractLoaders" (63 : Nat) ({ cls := "ContractLoaders", name := "isAct", desc := "(III)Z" } : Jvm.MethodName)) ∈ wsG := xg_tab (xc2 (List.mem_of_getElem? (i := 19) rfl)) rfl
theorem kw_260 : (Jvm.Cond.static ({ cls := "ContractLoaders", name := "isAct", desc := "(III)Z" } : Jvm.MethodName)) ∈ wsG := xg_tab (xc2 (List.mem_of_getElem? (i := 20) rfl)) rfl
theorem kw_261 : (Jvm.Cond.code ({ cls := "ContractLoaders", name := "isAct", desc := "(III)Z" } : Jvm.MethodName) prog_1_method_26_code (3 : Nat) (Option.some Jvm.ClassFile.FieldType.boolean)) ∈ wsG := xg_tab (xc2 (List.mem_of_getElem? (i := 21) rfl)) rfl
theorem kw_262 : (Jvm.Cond.methodLink "ContractLoaders" (67 : Nat) ({ cls := "ContractLoaders$ClassFile", name := "actCount", desc := "(I)I" } : Jvm.MethodName)) ∈ wsG := xg_tab (xc2 (List.mem_of_getElem? (i := 22) rfl)) rfl
theorem kw_263 : (Jvm.Cond.instanceMethod ({ cls := "ContractLoaders$ClassFile", name := "actCount", desc := "(I)I" } : Jvm.MethodName)) ∈ wsG := xg_tab (xc2 (List.mem_of_getElem? (i := 23) rfl)) rfl
theorem kw_264 : (Jvm.Cond.selects "ContractLoaders$ClassFile" ({ cls := "ContractLoaders$ClassFile", name := "actCount", desc := "(I)I" } : Jvm.MethodName) ({ cls := "ContractLoaders$ClassFile", name := "actCount", desc := "(I)I" } : Jvm.MethodName)) ∈ wsG := xg_tab (xc2 (List.mem_of_getElem? (i := 24) rfl)) rfl
theorem kw_265 : (Jvm.Cond.code ({ cls := "ContractLoaders$ClassFile", name := "actCount", desc := "(I)I" } : Jvm.MethodName) prog_2_method_6_code (2 : Nat) (Option.some Jvm.ClassFile.FieldType.int)) ∈ wsG := xg_tab (xc2 (List.mem_of_getElem? (i := 25) rfl)) rfl
theorem kw_266 : (Jvm.Cond.methodLink "ContractLoaders" (70 : Nat) ({ cls := "ContractLoaders$ClassFile", name := "addAct", desc := "(IIII)I" } : Jvm.MethodName)) ∈ wsG := xg_tab (xc2 (List.mem_of_getElem? (i := 26) rfl)) rfl
theorem kw_267 : (Jvm.Cond.instanceMethod ({ cls := "ContractLoaders$ClassFile", name := "addAct", desc := "(IIII)I" } : Jvm.MethodName)) ∈ wsG := xg_tab (xc2 (List.mem_of_getElem? (i := 27) rfl)) rfl
theorem kw_268 : (Jvm.Cond.selects "ContractLoaders$ClassFile" ({ cls := "ContractLoaders$ClassFile", name := "addAct", desc := "(IIII)I" } : Jvm.MethodName) ({ cls := "ContractLoaders$ClassFile", name := "addAct", desc := "(IIII)I" } : Jvm.MethodName)) ∈ wsG := xg_tab (xc2 (List.mem_of_getElem? (i := 28) rfl)) rfl
theorem kw_269 : (Jvm.Cond.code ({ cls := "ContractLoaders$ClassFile", name := "addAct", desc := "(IIII)I" } : Jvm.MethodName) prog_2_method_7_code (6 : Nat) (Option.some Jvm.ClassFile.FieldType.int)) ∈ wsG := xg_tab (xc2 (List.mem_of_getElem? (i := 29) rfl)) rfl
theorem kw_270 : (Jvm.Cond.methodLink "ContractLoadersLaw" (34 : Nat) ({ cls := "ContractLoaders", name := "loader", desc := "(I)I" } : Jvm.MethodName)) ∈ wsG := xg_tab (xc2 (List.mem_of_getElem? (i := 30) rfl)) rfl
theorem kw_271 : (Jvm.Cond.instanceMethod ({ cls := "ContractLoaders", name := "loader", desc := "(I)I" } : Jvm.MethodName)) ∈ wsG := xg_tab (xc2 (List.mem_of_getElem? (i := 31) rfl)) rfl
theorem kw_272 : (Jvm.Cond.selects "ContractLoaders" ({ cls := "ContractLoaders", name := "loader", desc := "(I)I" } : Jvm.MethodName) ({ cls := "ContractLoaders", name := "loader", desc := "(I)I" } : Jvm.MethodName)) ∈ wsG := xg_tab (xc2 (List.mem_of_getElem? (i := 32) rfl)) rfl
theorem kw_273 : (Jvm.Cond.code ({ cls := "ContractLoaders", name := "loader", desc := "(I)I" } : Jvm.MethodName) prog_1_method_5_code (3 : Nat) (Option.some Jvm.ClassFile.FieldType.int)) ∈ wsG := xg_tab (xc2 (List.mem_of_getElem? (i := 33) rfl)) rfl
theorem kw_274 : (Jvm.Cond.methodLink "ContractLoaders" (74 : Nat) ({ cls := "ContractLoaders$Library", name := "loaderAt", desc := "(I)LContractLoaders$Loader;" } : Jvm.MethodName)) ∈ wsG := xg_tab (xc2 (List.mem_of_getElem? (i := 34) rfl)) rfl
theorem kw_275 : (Jvm.Cond.instanceMethod ({ cls := "ContractLoaders$Library", name := "loaderAt", desc := "(I)LContractLoaders$Loader;" } : Jvm.MethodName)) ∈ wsG := xg_tab (xc2 (List.mem_of_getElem? (i := 35) rfl)) rfl
theorem kw_276 : (Jvm.Cond.selects "ContractLoaders$Library" ({ cls := "ContractLoaders$Library", name := "loaderAt", desc := "(I)LContractLoaders$Loader;" } : Jvm.MethodName) ({ cls := "ContractLoaders$Library", name := "loaderAt", desc := "(I)LContractLoaders$Loader;" } : Jvm.MethodName)) ∈ wsG := xg_tab (xc2 (List.mem_of_getElem? (i := 36) rfl)) rfl
theorem kw_277 : (Jvm.Cond.code ({ cls := "ContractLoaders$Library", name := "loaderAt", desc := "(I)LContractLoaders$Loader;" } : Jvm.MethodName) prog_5_method_3_code (2 : Nat) (Option.some (Jvm.ClassFile.FieldType.object "ContractLoaders$Loader"))) ∈ wsG := xg_tab (xc2 (List.mem_of_getElem? (i := 37) rfl)) rfl
theorem kw_278 : (Jvm.Cond.methodLink "ContractLoaders" (81 : Nat) ({ cls := "ContractLoaders$Library", name := "addLoader", desc := "(LContractLoaders$Loader;)I" } : Jvm.MethodName)) ∈ wsG := xg_tab (xc2 (List.mem_of_getElem? (i := 38) rfl)) rfl
theorem kw_279 : (Jvm.Cond.instanceMethod ({ cls := "ContractLoaders$Library", name := "addLoader", desc := "(LContractLoaders$Loader;)I" } : Jvm.MethodName)) ∈ wsG := xg_tab (xc2 (List.mem_of_getElem? (i := 39) rfl)) rfl
theorem kw_280 : (Jvm.Cond.selects "ContractLoaders$Library" ({ cls := "ContractLoaders$Library", name := "addLoader", desc := "(LContractLoaders$Loader;)I" } : Jvm.MethodName) ({ cls := "ContractLoaders$Library", name := "addLoader", desc := "(LContractLoaders$Loader;)I" } : Jvm.MethodName)) ∈ wsG := xg_tab (xc2 (List.mem_of_getElem? (i := 40) rfl)) rfl
theorem kw_281 : (Jvm.Cond.code ({ cls := "ContractLoaders$Library", name := "addLoader", desc := "(LContractLoaders$Loader;)I" } : Jvm.MethodName) prog_5_method_5_code (2 : Nat) (Option.some Jvm.ClassFile.FieldType.int)) ∈ wsG := xg_tab (xc2 (List.mem_of_getElem? (i := 41) rfl)) rfl
theorem kw_282 : (Jvm.Cond.methodLink "ContractLoadersLaw" (39 : Nat) ({ cls := "ContractLoaders", name := "offer", desc := "(III)I" } : Jvm.MethodName)) ∈ wsG := xg_tab (xc2 (List.mem_of_getElem? (i := 42) rfl)) rfl
theorem kw_283 : (Jvm.Cond.instanceMethod ({ cls := "ContractLoaders", name := "offer", desc := "(III)I" } : Jvm.MethodName)) ∈ wsG := xg_tab (xc2 (List.mem_of_getElem? (i := 43) rfl)) rfl
theorem kw_284 : (Jvm.Cond.selects "ContractLoaders" ({ cls := "ContractLoaders", name := "offer", desc := "(III)I" } : Jvm.MethodName) ({ cls := "ContractLoaders", name := "offer", desc := "(III)I" } : Jvm.MethodName)) ∈ wsG := xg_tab (xc2 (List.mem_of_getElem? (i := 44) rfl)) rfl
theorem kw_285 : (Jvm.Cond.code ({ cls := "ContractLoaders", name := "offer", desc := "(III)I" } : Jvm.MethodName) prog_1_method_6_code (6 : Nat) (Option.some Jvm.ClassFile.FieldType.int)) ∈ wsG := xg_tab (xc2 (List.mem_of_getElem? (i := 45) rfl)) rfl
theorem kw_286 : (Jvm.Cond.methodLink "ContractLoaders" (91 : Nat) ({ cls := "ContractLoaders$Loader", name := "addOffer", desc := "(ILContractLoaders$ClassFile;)V" } : Jvm.MethodName)) ∈ wsG := xg_tab (xc2 (List.mem_of_getElem? (i := 46) rfl)) rfl
theorem kw_287 : (Jvm.Cond.instanceMethod ({ cls := "ContractLoaders$Loader", name := "addOffer", desc := "(ILContractLoaders$ClassFile;)V" } : Jvm.MethodName)) ∈ wsG := xg_tab (xc2 (List.mem_of_getElem? (i := 47) rfl)) rfl
theorem kw_288 : (Jvm.Cond.selects "ContractLoaders$Loader" ({ cls := "ContractLoaders$Loader", name := "addOffer", desc := "(ILContractLoaders$ClassFile;)V" } : Jvm.MethodName) ({ cls := "ContractLoaders$Loader", name := "addOffer", desc := "(ILContractLoaders$ClassFile;)V" } : Jvm.MethodName)) ∈ wsG := xg_tab (xc2 (List.mem_of_getElem? (i := 48) rfl)) rfl
theorem kw_289 : (Jvm.Cond.code ({ cls := "ContractLoaders$Loader", name := "addOffer", desc := "(ILContractLoaders$ClassFile;)V" } : Jvm.MethodName) prog_7_method_2_code (3 : Nat) (Option.none : Option Jvm.ClassFile.FieldType)) ∈ wsG := xg_tab (xc2 (List.mem_of_getElem? (i := 49) rfl)) rfl
theorem kw_290 : (Jvm.Cond.instantiable "ContractLoaders$LoadedClass" (9 : Nat)) ∈ wsG := xg_tab (xc2 (List.mem_of_getElem? (i := 50) rfl)) rfl
theorem kw_291 : (Jvm.Cond.methodLink "ContractLoaders$Loader" (31 : Nat) ({ cls := "ContractLoaders$LoadedClass", name := "<init>", desc := "(LContractLoaders$Loader;ILContractLoaders$ClassFile;)V" } : Jvm.MethodName)) ∈ wsG := xg_tab (xc2 (List.mem_of_getElem? (i := 51) rfl)) rfl
theorem kw_292 : (Jvm.Cond.instanceMethod ({ cls := "ContractLoaders$LoadedClass", name := "<init>", desc := "(LContractLoaders$Loader;ILContractLoaders$ClassFile;)V" } : Jvm.MethodName)) ∈ wsG := xg_tab (xc2 (List.mem_of_getElem? (i := 52) rfl)) rfl
theorem kw_293 : (Jvm.Cond.code ({ cls := "ContractLoaders$LoadedClass", name := "<init>", desc := "(LContractLoaders$Loader;ILContractLoaders$ClassFile;)V" } : Jvm.MethodName) prog_6_method_1_code (4 : Nat) (Option.none : Option Jvm.ClassFile.FieldType)) ∈ wsG := xg_tab (xc2 (List.mem_of_getElem? (i := 53) rfl)) rfl
theorem kw_294 : (Jvm.Cond.methodLink "ContractLoaders$LoadedClass" (3 : Nat) ({ cls := "java/lang/Object", name := "<init>", desc := "()V" } : Jvm.MethodName)) ∈ wsG := xg_tab (xc2 (List.mem_of_getElem? (i := 54) rfl)) rfl
theorem kw_295 : (Jvm.Cond.fieldLink "ContractLoaders$LoadedClass" (15 : Nat) "ContractLoaders$LoadedClass" "loader" "LContractLoaders$Loader;") ∈ wsG := xg_tab (xc2 (List.mem_of_getElem? (i := 55) rfl)) rfl
theorem kw_296 : (Jvm.Cond.fieldLink "ContractLoaders$Machine" (229 : Nat) "ContractLoaders$LoadedClass" "loader" "LContractLoaders$Loader;") ∈ wsG := xg_tab (xc2 (List.mem_of_getElem? (i := 56) rfl)) rfl
theorem kw_297 : (Jvm.Cond.fieldLink "ContractLoaders$Library" (94 : Nat) "ContractLoaders$LoadedClass" "loader" "LContractLoaders$Loader;") ∈ wsG := xg_tab (xc2 (List.mem_of_getElem? (i := 57) rfl)) rfl
theorem kw_298 : (Jvm.Cond.fieldLink "ContractLoaders$LoadedClass" (19 : Nat) "ContractLoaders$LoadedClass" "name" "I") ∈ wsG := xg_tab (xc2 (List.mem_of_getElem? (i := 58) rfl)) rfl
theorem kw_299 : (Jvm.Cond.fieldLink "ContractLoaders$Library" (121 : Nat) "ContractLoaders$LoadedClass" "name" "I") ∈ wsG := xg_tab (xc2 (List.mem_of_getElem? (i := 59) rfl)) rfl
theorem kw_300 : (Jvm.Cond.fieldLink "ContractLoaders$LoadedClass" (23 : Nat) "ContractLoaders$LoadedClass" "file" "LContractLoaders$ClassFile;") ∈ wsG := xg_tab (xc2 (List.mem_of_getElem? (i := 60) rfl)) rfl
theorem kw_301 : (Jvm.Cond.fieldLink "ContractLoaders$Frame" (36 : Nat) "ContractLoaders$LoadedClass" "file" "LContractLoaders$ClassFile;") ∈ wsG := xg_tab (xc2 (List.mem_of_getElem? (i := 61) rfl)) rfl
theorem kw_302 : (Jvm.Cond.fieldLink "ContractLoaders$Machine" (114 : Nat) "ContractLoaders$LoadedClass" "file" "LContractLoaders$ClassFile;") ∈ wsG := xg_tab (xc2 (List.mem_of_getElem? (i := 62) rfl)) rfl
theorem kw_303 : (Jvm.Cond.fieldLink "ContractLoaders$Library" (40 : Nat) "ContractLoaders$LoadedClass" "file" "LContractLoaders$ClassFile;") ∈ wsG := xg_tab (xc2 (List.mem_of_getElem? (i := 63) rfl)) rfl
theorem kw_304 : (Jvm.Cond.fieldLink "ContractLoaders" (128 : Nat) "ContractLoaders$LoadedClass" "file" "LContractLoaders$ClassFile;") ∈ wsG := xg_tab (xc2 (List.mem_of_getElem? (i := 64) rfl)) rfl
theorem kw_305 : (Jvm.Cond.fieldLink "ContractLoaders$LoadedClass" (32 : Nat) "ContractLoaders$LoadedClass" "bit" "I") ∈ wsG := xg_tab (xc2 (List.mem_of_getElem? (i := 65) rfl)) rfl
theorem kw_306 : (Jvm.Cond.fieldLink "ContractLoaders$LoadedClass" (9 : Nat) "ContractLoaders$LoadedClass" "belowBits" "[J") ∈ wsG := xg_tab (xc2 (List.mem_of_getElem? (i := 66) rfl)) rfl
theorem kw_307 : (Jvm.Cond.fieldLink "ContractLoaders$LoadedClass" (39 : Nat) "ContractLoaders$LoadedClass" "superClass" "LContractLoaders$LoadedClass;") ∈ wsG := xg_tab (xc2 (List.mem_of_getElem? (i := 67) rfl)) rfl
theorem kw_308 : (Jvm.Cond.fieldLink "ContractLoaders$Machine" (126 : Nat) "ContractLoaders$LoadedClass" "superClass" "LContractLoaders$LoadedClass;") ∈ wsG := xg_tab (xc2 (List.mem_of_getElem? (i := 68) rfl)) rfl
theorem kw_309 : (Jvm.Cond.fieldLink "ContractLoaders$LoadedClass" (43 : Nat) "ContractLoaders$LoadedClass" "above" "I") ∈ wsG := xg_tab (xc2 (List.mem_of_getElem? (i := 69) rfl)) rfl
theorem kw_310 : (Jvm.Cond.fieldLink "ContractLoaders$Loader" (40 : Nat) "ContractLoaders$LoadedClass" "there" "Z") ∈ wsG := xg_tab (xc2 (List.mem_of_getElem? (i := 70) rfl)) rfl
theorem kw_311 : (Jvm.Cond.fieldLink "ContractLoaders$Library" (58 : Nat) "ContractLoaders$LoadedClass" "there" "Z") ∈ wsG := xg_tab (xc2 (List.mem_of_getElem? (i := 71) rfl)) rfl
theorem kw_312 : (Jvm.Cond.fieldLink "ContractLoaders$LoadedClass" (35 : Nat) "ContractLoaders$LoadedClass" "making" "Z") ∈ wsG := xg_tab (xc2 (List.mem_of_getElem? (i := 72) rfl)) rfl
theorem kw_313 : (Jvm.Cond.fieldLink "ContractLoaders$Library" (112 : Nat) "ContractLoaders$LoadedClass" "making" "Z") ∈ wsG := xg_tab (xc2 (List.mem_of_getElem? (i := 73) rfl)) rfl
theorem kw_314 : (Jvm.Cond.laysFinal "ContractLoaders$LoadedClass" "ContractLoaders$LoadedClass" "loader" "LContractLoaders$Loader;") ∈ wsG := xg_tab (xc2 (List.mem_of_getElem? (i := 74) rfl)) rfl
theorem kw_315 : (Jvm.Cond.soleField "ContractLoaders$LoadedClass" "loader") ∈ tables_1 := xc2 (List.mem_of_getElem? (i := 75) rfl)
theorem kw_316 : (Jvm.Cond.laysFinal "ContractLoaders$LoadedClass" "ContractLoaders$LoadedClass" "name" "I") ∈ wsG := xg_tab (xc2 (List.mem_of_getElem? (i := 76) rfl)) rfl
theorem kw_317 : (Jvm.Cond.soleField "ContractLoaders$LoadedClass" "name") ∈ tables_1 := xc2 (List.mem_of_getElem? (i := 77) rfl)
theorem kw_318 : (Jvm.Cond.laysFinal "ContractLoaders$LoadedClass" "ContractLoaders$LoadedClass" "file" "LContractLoaders$ClassFile;") ∈ wsG := xg_tab (xc2 (List.mem_of_getElem? (i := 78) rfl)) rfl
theorem kw_319 : (Jvm.Cond.soleField "ContractLoaders$LoadedClass" "file") ∈ tables_1 := xc2 (List.mem_of_getElem? (i := 79) rfl)
theorem kw_320 : (Jvm.Cond.laysFinal "ContractLoaders$LoadedClass" "ContractLoaders$LoadedClass" "bit" "I") ∈ wsG := xg_tab (xc2 (List.mem_of_getElem? (i := 80) rfl)) rfl
theorem kw_321 : (Jvm.Cond.soleField "ContractLoaders$LoadedClass" "bit") ∈ tables_1 := xc2 (List.mem_of_getElem? (i := 81) rfl)
theorem kw_322 : (Jvm.Cond.laysFinal "ContractLoaders$LoadedClass" "ContractLoaders$LoadedClass" "belowBits" "[J") ∈ wsG := xg_tab (xc2 (List.mem_of_getElem? (i := 82) rfl)) rfl
theorem kw_323 : (Jvm.Cond.soleField "ContractLoaders$LoadedClass" "belowBits") ∈ tables_1 := xc2 (List.mem_of_getElem? (i := 83) rfl)
theorem kw_324 : (Jvm.Cond.lays "ContractLoaders$LoadedClass" "ContractLoaders$LoadedClass" "superClass" "LContractLoaders$LoadedClass;") ∈ wsG := xg_tab (xc2 (List.mem_of_getElem? (i := 84) rfl)) rfl
theorem kw_325 : (Jvm.Cond.soleField "ContractLoaders$LoadedClass" "superClass") ∈ tables_1 := xc2 (List.mem_of_getElem? (i := 85) rfl)
theorem kw_326 : (Jvm.Cond.lays "ContractLoaders$LoadedClass" "ContractLoaders$LoadedClass" "above" "I") ∈ wsG := xg_tab (xc2 (List.mem_of_getElem? (i := 86) rfl)) rfl
theorem kw_327 : (Jvm.Cond.soleField "ContractLoaders$LoadedClass" "above") ∈ tables_1 := xc2 (List.mem_of_getElem? (i := 87) rfl)
theorem kw_328 : (Jvm.Cond.lays "ContractLoaders$LoadedClass" "ContractLoaders$LoadedClass" "there" "Z") ∈ wsG := xg_tab (xc2 (List.mem_of_getElem? (i := 88) rfl)) rfl
theorem kw_329 : (Jvm.Cond.soleField "ContractLoaders$LoadedClass" "there") ∈ tables_1 := xc2 (List.mem_of_getElem? (i := 89) rfl)
theorem kw_330 : (Jvm.Cond.lays "ContractLoaders$LoadedClass" "ContractLoaders$LoadedClass" "making" "Z") ∈ wsG := xg_tab (xc2 (List.mem_of_getElem? (i := 90) rfl)) rfl
theorem kw_331 : (Jvm.Cond.soleField "ContractLoaders$LoadedClass" "making") ∈ tables_1 := xc2 (List.mem_of_getElem? (i := 91) rfl)
theorem kw_332 : (Jvm.Cond.superclass "ContractLoaders$LoadedClass" "java/lang/Object") ∈ tables_1 := xc2 (List.mem_of_getElem? (i := 92) rfl)
theorem kw_333 : (Jvm.Cond.methodLink "ContractLoadersLaw" (44 : Nat) ({ cls := "ContractLoaders", name := "find", desc := "(II)I" } : Jvm.MethodName)) ∈ wsG := xg_tab (xc2 (List.mem_of_getElem? (i := 93) rfl)) rfl
theorem kw_334 : (Jvm.Cond.instanceMethod ({ cls := "ContractLoaders", name := "find", desc := "(II)I" } : Jvm.MethodName)) ∈ wsG := xg_tab (xc2 (List.mem_of_getElem? (i := 94) rfl)) rfl
theorem kw_335 : (Jvm.Cond.selects "ContractLoaders" ({ cls := "ContractLoaders", name := "find", desc := "(II)I" } : Jvm.MethodName) ({ cls := "ContractLoaders", name := "find", desc := "(II)I" } : Jvm.MethodName)) ∈ wsG := xg_tab (xc2 (List.mem_of_getElem? (i := 95) rfl)) rfl
theorem kw_336 : (Jvm.Cond.code ({ cls := "ContractLoaders", name := "find", desc := "(II)I" } : Jvm.MethodName) prog_1_method_7_code (4 : Nat) (Option.some Jvm.ClassFile.FieldType.int)) ∈ wsG := xg_tab (xc2 (List.mem_of_getElem? (i := 96) rfl)) rfl
theorem kw_337 : (Jvm.Cond.methodLinkNest "ContractLoaders" (95 : Nat) ({ cls := "ContractLoaders$Library", name := "found", desc := "(LContractLoaders$Loader;II)LContractLoaders$LoadedClass;" } : Jvm.MethodName) "ContractLoaders") ∈ tables_1 := xc2 (List.mem_of_getElem? (i := 97) rfl)
theorem kw_338 : (Jvm.Cond.privateMethod ({ cls := "ContractLoaders$Library", name := "found", desc := "(LContractLoaders$Loader;II)LContractLoaders$LoadedClass;" } : Jvm.MethodName)) ∈ tables_1 := xc2 (List.mem_of_getElem? (i := 98) rfl)
theorem kw_339 : (Jvm.Cond.instanceMethod ({ cls := "ContractLoaders$Library", name := "found", desc := "(LContractLoaders$Loader;II)LContractLoaders$LoadedClass;" } : Jvm.MethodName)) ∈ wsG := xg_tab (xc2 (List.mem_of_getElem? (i := 99) rfl)) rfl
theorem kw_340 : (Jvm.Cond.code ({ cls := "ContractLoaders$Library", name := "found", desc := "(LContractLoaders$Loader;II)LContractLoaders$LoadedClass;" } : Jvm.MethodName) prog_5_method_12_code (5 : Nat) (Option.some (Jvm.ClassFile.FieldType.object "ContractLoaders$LoadedClass"))) ∈ wsG := xg_tab (xc2 (List.mem_of_getElem? (i := 100) rfl)) rfl
theorem kw_341 : (Jvm.Cond.methodLink "ContractLoaders$Library" (76 : Nat) ({ cls := "ContractLoaders$Library", name := "thereOrOffered", desc := "(LContractLoaders$Loader;I)LContractLoaders$LoadedClass;" } : Jvm.MethodName)) ∈ wsG := xg_tab (xc2 (List.mem_of_getElem? (i := 101) rfl)) rfl
theorem kw_342 : (Jvm.Cond.static ({ cls := "ContractLoaders$Library", name := "thereOrOffered", desc := "(LContractLoaders$Loader;I)LContractLoaders$LoadedClass;" } : Jvm.MethodName)) ∈ wsG := xg_tab (xc2 (List.mem_of_getElem? (i := 102) rfl)) rfl
theorem kw_343 : (Jvm.Cond.code ({ cls := "ContractLoaders$Library", name := "thereOrOffered", desc := "(LContractLoaders$Loader;I)LContractLoaders$LoadedClass;" } : Jvm.MethodName) prog_5_method_13_code (5 : Nat) (Option.some (Jvm.ClassFile.FieldType.object "ContractLoaders$LoadedClass"))) ∈ wsG := xg_tab (xc2 (List.mem_of_getElem? (i := 103) rfl)) rfl
theorem kw_344 : (Jvm.Cond.methodLink "ContractLoaders$Library" (50 : Nat) ({ cls := "ContractLoaders$Library", name := "refused", desc := "(I)LContractLoaders$LoadedClass;" } : Jvm.MethodName)) ∈ wsG := xg_tab (xc2 (List.mem_of_getElem? (i := 104) rfl)) rfl
theorem kw_345 : (Jvm.Cond.privateMethod ({ cls := "ContractLoaders$Library", name := "refused", desc := "(I)LContractLoaders$LoadedClass;" } : Jvm.MethodName)) ∈ tables_1 := xc2 (List.mem_of_getElem? (i := 105) rfl)
theorem kw_346 : (Jvm.Cond.instanceMethod ({ cls := "ContractLoaders$Library", name := "refused", desc := "(I)LContractLoaders$LoadedClass;" } : Jvm.MethodName)) ∈ wsG := xg_tab (xc2 (List.mem_of_getElem? (i := 106) rfl)) rfl
theorem kw_347 : (Jvm.Cond.code ({ cls := "ContractLoaders$Library", name := "refused", desc := "(I)LContractLoaders$LoadedClass;" } : Jvm.MethodName) prog_5_method_11_code (2 : Nat) (Option.some (Jvm.ClassFile.FieldType.object "ContractLoaders$LoadedClass"))) ∈ wsG := xg_tab (xc2 (List.mem_of_getElem? (i := 107) rfl)) rfl
theorem kw_348 : (Jvm.Cond.methodLink "ContractLoaders$Library" (61 : Nat) ({ cls := "ContractLoaders$Library", name := "makes", desc := "(LContractLoaders$LoadedClass;I)Z" } : Jvm.MethodName)) ∈ wsG := xg_tab (xc2 (List.mem_of_getElem? (i := 108) rfl)) rfl
theorem kw_349 : (Jvm.Cond.privateMethod ({ cls := "ContractLoaders$Library", name := "makes", desc := "(LContractLoaders$LoadedClass;I)Z" } : Jvm.MethodName)) ∈ tables_1 := xc2 (List.mem_of_getElem? (i := 109) rfl)
theorem kw_350 : (Jvm.Cond.instanceMethod ({ cls := "ContractLoaders$Library", name := "makes", desc := "(LContractLoaders$LoadedClass;I)Z" } : Jvm.MethodName)) ∈ wsG := xg_tab (xc2 (List.mem_of_getElem? (i := 110) rfl)) rfl
theorem kw_351 : (Jvm.Cond.code ({ cls := "ContractLoaders$Library", name := "makes", desc := "(LContractLoaders$LoadedClass;I)Z" } : Jvm.MethodName) prog_5_method_14_code (5 : Nat) (Option.some Jvm.ClassFile.FieldType.boolean)) ∈ wsG := xg_tab (xc2 (List.mem_of_getElem? (i := 111) rfl)) rfl
theorem kw_352 : (Jvm.Cond.methodLink "ContractLoaders$Library" (84 : Nat) ({ cls := "ContractLoaders$Library", name := "reasonNotToMake", desc := "(LContractLoaders$LoadedClass;I)I" } : Jvm.MethodName)) ∈ wsG := xg_tab (xc2 (List.mem_of_getElem? (i := 112) rfl)) rfl
theorem kw_353 : (Jvm.Cond.static ({ cls := "ContractLoaders$Library", name := "reasonNotToMake", desc := "(LContractLoaders$LoadedClass;I)I" } : Jvm.MethodName)) ∈ wsG := xg_tab (xc2 (List.mem_of_getElem? (i := 113) rfl)) rfl
theorem kw_354 : (Jvm.Cond.code ({ cls := "ContractLoaders$Library", name := "reasonNotToMake", desc := "(LContractLoaders$LoadedClass;I)I" } : Jvm.MethodName) prog_5_method_15_code (2 : Nat) (Option.some Jvm.ClassFile.FieldType.int)) ∈ wsG := xg_tab (xc2 (List.mem_of_getElem? (i := 114) rfl)) rfl
theorem kw_355 : (Jvm.Cond.methodLink "ContractLoaders$Library" (88 : Nat) ({ cls := "ContractLoaders$LoadedClass", name := "startMaking", desc := "()V" } : Jvm.MethodName)) ∈ wsG := xg_tab (xc2 (List.mem_of_getElem? (i := 115) rfl)) rfl
theorem kw_356 : (Jvm.Cond.instanceMethod ({ cls := "ContractLoaders$LoadedClass", name := "startMaking", desc := "()V" } : Jvm.MethodName)) ∈ wsG := xg_tab (xc2 (List.mem_of_getElem? (i := 116) rfl)) rfl
theorem kw_357 : (Jvm.Cond.selects "ContractLoaders$LoadedClass" ({ cls := "ContractLoaders$LoadedClass", name := "startMaking", desc := "()V" } : Jvm.MethodName) ({ cls := "ContractLoaders$LoadedClass", name := "startMaking", desc := "()V" } : Jvm.MethodName)) ∈ wsG := xg_tab (xc2 (List.mem_of_getElem? (i := 117) rfl)) rfl
theorem kw_358 : (Jvm.Cond.code ({ cls := "ContractLoaders$LoadedClass", name := "startMaking", desc := "()V" } : Jvm.MethodName) prog_6_method_3_code (2 : Nat) (Option.none : Option Jvm.ClassFile.FieldType)) ∈ wsG := xg_tab (xc2 (List.mem_of_getElem? (i := 118) rfl)) rfl
theorem kw_359 : (Jvm.Cond.methodLink "ContractLoaders$Library" (91 : Nat) ({ cls := "ContractLoaders$ClassFile", name := "partCount", desc := "()I" } : Jvm.MethodName)) ∈ wsG := xg_tab (xc2 (List.mem_of_getElem? (i := 119) rfl)) rfl
theorem kw_360 : (Jvm.Cond.instanceMethod ({ cls := "ContractLoaders$ClassFile", name := "partCount", desc := "()I" } : Jvm.MethodName)) ∈ wsG := xg_tab (xc2 (List.mem_of_getElem? (i := 120) rfl)) rfl
theorem kw_361 : (Jvm.Cond.selects "ContractLoaders$ClassFile" ({ cls := "ContractLoaders$ClassFile", name := "partCount", desc := "()I" } : Jvm.MethodName) ({ cls := "ContractLoaders$ClassFile", name := "partCount", desc := "()I" } : Jvm.MethodName)) ∈ wsG := xg_tab (xc2 (List.mem_of_getElem? (i := 121) rfl)) rfl
theorem kw_362 : (Jvm.Cond.code ({ cls := "ContractLoaders$ClassFile", name := "partCount", desc := "()I" } : Jvm.MethodName) prog_2_method_3_code (1 : Nat) (Option.some Jvm.ClassFile.FieldType.int)) ∈ wsG := xg_tab (xc2 (List.mem_of_getElem? (i := 122) rfl)) rfl
theorem kw_363 : (Jvm.Cond.methodLink "ContractLoaders$Library" (97 : Nat) ({ cls := "ContractLoaders$ClassFile", name := "partName", desc := "(I)I" } : Jvm.MethodName)) ∈ wsG := xg_tab (xc2 (List.mem_of_getElem? (i := 123) rfl)) rfl
theorem kw_364 : (Jvm.Cond.instanceMethod ({ cls := "ContractLoaders$ClassFile", name := "partName", desc := "(I)I" } : Jvm.MethodName)) ∈ wsG := xg_tab (xc2 (List.mem_of_getElem? (i := 124) rfl)) rfl
theorem kw_365 : (Jvm.Cond.selects "ContractLoaders$ClassFile" ({ cls := "ContractLoaders$ClassFile", name := "partName", desc := "(I)I" } : Jvm.MethodName) ({ cls := "ContractLoaders$ClassFile", name := "partName", desc := "(I)I" } : Jvm.MethodName)) ∈ wsG := xg_tab (xc2 (List.mem_of_getElem? (i := 125) rfl)) rfl
theorem kw_366 : (Jvm.Cond.code ({ cls := "ContractLoaders$ClassFile", name := "partName", desc := "(I)I" } : Jvm.MethodName) prog_2_method_5_code (2 : Nat) (Option.some Jvm.ClassFile.FieldType.int)) ∈ wsG := xg_tab (xc2 (List.mem_of_getElem? (i := 126) rfl)) rfl
theorem kw_367 : (Jvm.Cond.methodLink "ContractLoaders$Library" (36 : Nat) ({ cls := "ContractLoaders$Library", name := "found", desc := "(LContractLoaders$Loader;II)LContractLoaders$LoadedClass;" } : Jvm.MethodName)) ∈ wsG := xg_tab (xc2 (List.mem_of_getElem? (i := 127) rfl)) rfl
theorem kw_368 : (Jvm.Cond.methodLink "ContractLoaders$Library" (101 : Nat) ({ cls := "ContractLoaders$Library", name := "failureOfPart", desc := "(I)I" } : Jvm.MethodName)) ∈ wsG := xg_tab (xc2 (List.mem_of_getElem? (i := 128) rfl)) rfl
theorem kw_369 : (Jvm.Cond.static ({ cls := "ContractLoaders$Library", name := "failureOfPart", desc := "(I)I" } : Jvm.MethodName)) ∈ wsG := xg_tab (xc2 (List.mem_of_getElem? (i := 129) rfl)) rfl
theorem kw_370 : (Jvm.Cond.code ({ cls := "ContractLoaders$Library", name := "failureOfPart", desc := "(I)I" } : Jvm.MethodName) prog_5_method_16_code (1 : Nat) (Option.some Jvm.ClassFile.FieldType.int)) ∈ wsG := xg_tab (xc2 (List.mem_of_getElem? (i := 130) rfl)) rfl
theorem kw_371 : (Jvm.Cond.methodLink "ContractLoaders$Library" (104 : Nat) ({ cls := "ContractLoaders$ClassFile", name := "isSuper", desc := "(I)Z" } : Jvm.MethodName)) ∈ wsG := xg_tab (xc2 (List.mem_of_getElem? (i := 131) rfl)) rfl
theorem kw_372 : (Jvm.Cond.instanceMethod ({ cls := "ContractLoaders$ClassFile", name := "isSuper", desc := "(I)Z" } : Jvm.MethodName)) ∈ wsG := xg_tab (xc2 (List.mem_of_getElem? (i := 132) rfl)) rfl
theorem kw_373 : (Jvm.Cond.selects "ContractLoaders$ClassFile" ({ cls := "ContractLoaders$ClassFile", name := "isSuper", desc := "(I)Z" } : Jvm.MethodName) ({ cls := "ContractLoaders$ClassFile", name := "isSuper", desc := "(I)Z" } : Jvm.MethodName)) ∈ wsG := xg_tab (xc2 (List.mem_of_getElem? (i := 133) rfl)) rfl
theorem kw_374 : (Jvm.Cond.code ({ cls := "ContractLoaders$ClassFile", name := "isSuper", desc := "(I)Z" } : Jvm.MethodName) prog_2_method_4_code (2 : Nat) (Option.some Jvm.ClassFile.FieldType.boolean)) ∈ wsG := xg_tab (xc2 (List.mem_of_getElem? (i := 134) rfl)) rfl
theorem kw_375 : (Jvm.Cond.methodLink "ContractLoaders$Library" (108 : Nat) ({ cls := "ContractLoaders$LoadedClass", name := "put", desc := "(LContractLoaders$LoadedClass;Z)I" } : Jvm.MethodName)) ∈ wsG := xg_tab (xc2 (List.mem_of_getElem? (i := 135) rfl)) rfl
theorem kw_376 : (Jvm.Cond.instanceMethod ({ cls := "ContractLoaders$LoadedClass", name := "put", desc := "(LContractLoaders$LoadedClass;Z)I" } : Jvm.MethodName)) ∈ wsG := xg_tab (xc2 (List.mem_of_getElem? (i := 136) rfl)) rfl
theorem kw_377 : (Jvm.Cond.selects "ContractLoaders$LoadedClass" ({ cls := "ContractLoaders$LoadedClass", name := "put", desc := "(LContractLoaders$LoadedClass;Z)I" } : Jvm.MethodName) ({ cls := "ContractLoaders$LoadedClass", name := "put", desc := "(LContractLoaders$LoadedClass;Z)I" } : Jvm.MethodName)) ∈ wsG := xg_tab (xc2 (List.mem_of_getElem? (i := 137) rfl)) rfl
theorem kw_378 : (Jvm.Cond.code ({ cls := "ContractLoaders$LoadedClass", name := "put", desc := "(LContractLoaders$LoadedClass;Z)I" } : Jvm.MethodName) prog_6_method_4_code (4 : Nat) (Option.some Jvm.ClassFile.FieldType.int)) ∈ wsG := xg_tab (xc2 (List.mem_of_getElem? (i := 138) rfl)) rfl
theorem kw_379 : (Jvm.Cond.methodLink "ContractLoaders" (99 : Nat) ({ cls := "ContractLoaders", name := "toldOrFailure", desc := "(LContractLoaders$LoadedClass;)I" } : Jvm.MethodName)) ∈ wsG := xg_tab (xc2 (List.mem_of_getElem? (i := 139) rfl)) rfl
theorem kw_380 : (Jvm.Cond.privateMethod ({ cls := "ContractLoaders", name := "toldOrFailure", desc := "(LContractLoaders$LoadedClass;)I" } : Jvm.MethodName)) ∈ tables_1 := xc2 (List.mem_of_getElem? (i := 140) rfl)
theorem kw_381 : (Jvm.Cond.instanceMethod ({ cls := "ContractLoaders", name := "toldOrFailure", desc := "(LContractLoaders$LoadedClass;)I" } : Jvm.MethodName)) ∈ wsG := xg_tab (xc2 (List.mem_of_getElem? (i := 141) rfl)) rfl
theorem kw_382 : (Jvm.Cond.code ({ cls := "ContractLoaders", name := "toldOrFailure", desc := "(LContractLoaders$LoadedClass;)I" } : Jvm.MethodName) prog_1_method_19_code (2 : Nat) (Option.some Jvm.ClassFile.FieldType.int)) ∈ wsG := xg_tab (xc2 (List.mem_of_getElem? (i := 142) rfl)) rfl
theorem kw_383 : (Jvm.Cond.methodLink "ContractLoaders" (113 : Nat) ({ cls := "ContractLoaders", name := "failed", desc := "(I)I" } : Jvm.MethodName)) ∈ wsG := xg_tab (xc2 (List.mem_of_getElem? (i := 143) rfl)) rfl
theorem kw_384 : (Jvm.Cond.static ({ cls := "ContractLoaders", name := "failed", desc := "(I)I" } : Jvm.MethodName)) ∈ wsG := xg_tab (xc2 (List.mem_of_getElem? (i := 144) rfl)) rfl
theorem kw_385 : (Jvm.Cond.code ({ cls := "ContractLoaders", name := "failed", desc := "(I)I" } : Jvm.MethodName) prog_1_method_22_code (1 : Nat) (Option.some Jvm.ClassFile.FieldType.int)) ∈ wsG := xg_tab (xc2 (List.mem_of_getElem? (i := 145) rfl)) rfl
theorem kw_386 : (Jvm.Cond.methodLink "ContractLoaders" (209 : Nat) ({ cls := "ContractLoaders$LoadedClass", name := "number", desc := "()I" } : Jvm.MethodName)) ∈ wsG := xg_tab (xc2 (List.mem_of_getElem? (i := 146) rfl)) rfl
theorem kw_387 : (Jvm.Cond.instanceMethod ({ cls := "ContractLoaders$LoadedClass", name := "number", desc := "()I" } : Jvm.MethodName)) ∈ wsG := xg_tab (xc2 (List.mem_of_getElem? (i := 147) rfl)) rfl
theorem kw_388 : (Jvm.Cond.selects "ContractLoaders$LoadedClass" ({ cls := "ContractLoaders$LoadedClass", name := "number", desc := "()I" } : Jvm.MethodName) ({ cls := "ContractLoaders$LoadedClass", name := "number", desc := "()I" } : Jvm.MethodName)) ∈ wsG := xg_tab (xc2 (List.mem_of_getElem? (i := 148) rfl)) rfl
theorem kw_389 : (Jvm.Cond.code ({ cls := "ContractLoaders$LoadedClass", name := "number", desc := "()I" } : Jvm.MethodName) prog_6_method_2_code (1 : Nat) (Option.some Jvm.ClassFile.FieldType.int)) ∈ wsG := xg_tab (xc2 (List.mem_of_getElem? (i := 149) rfl)) rfl
theorem kw_390 : (Jvm.Cond.methodLink "ContractLoadersLaw" (48 : Nat) ({ cls := "ContractLoaders", name := "define", desc := "(II)I" } : Jvm.MethodName)) ∈ wsG := xg_tab (xc2 (List.mem_of_getElem? (i := 150) rfl)) rfl
theorem kw_391 : (Jvm.Cond.instanceMethod ({ cls := "ContractLoaders", name := "define", desc := "(II)I" } : Jvm.MethodName)) ∈ wsG := xg_tab (xc2 (List.mem_of_getElem? (i := 151) rfl)) rfl
theorem kw_392 : (Jvm.Cond.selects "ContractLoaders" ({ cls := "ContractLoaders", name := "define", desc := "(II)I" } : Jvm.MethodName) ({ cls := "ContractLoaders", name := "define", desc := "(II)I" } : Jvm.MethodName)) ∈ wsG := xg_tab (xc2 (List.mem_of_getElem? (i := 152) rfl)) rfl
theorem kw_393 : (Jvm.Cond.code ({ cls := "ContractLoaders", name := "define", desc := "(II)I" } : Jvm.MethodName) prog_1_method_8_code (4 : Nat) (Option.some Jvm.ClassFile.FieldType.int)) ∈ wsG := xg_tab (xc2 (List.mem_of_getElem? (i := 153) rfl)) rfl
theorem kw_394 : (Jvm.Cond.methodLink "ContractLoaders" (103 : Nat) ({ cls := "ContractLoaders$Library", name := "defined", desc := "(LContractLoaders$Loader;I)LContractLoaders$LoadedClass;" } : Jvm.MethodName)) ∈ wsG := xg_tab (xc2 (List.mem_of_getElem? (i := 154) rfl)) rfl
theorem kw_395 : (Jvm.Cond.instanceMethod ({ cls := "ContractLoaders$Library", name := "defined", desc := "(LContractLoaders$Loader;I)LContractLoaders$LoadedClass;" } : Jvm.MethodName)) ∈ wsG := xg_tab (xc2 (List.mem_of_getElem? (i := 155) rfl)) rfl
theorem kw_396 : (Jvm.Cond.selects "ContractLoaders$Library" ({ cls := "ContractLoaders$Library", name := "defined", desc := "(LContractLoaders$Loader;I)LContractLoaders$LoadedClass;" } : Jvm.MethodName) ({ cls := "ContractLoaders$Library", name := "defined", desc := "(LContractLoaders$Loader;I)LContractLoaders$LoadedClass;" } : Jvm.MethodName)) ∈ wsG := xg_tab (xc2 (List.mem_of_getElem? (i := 156) rfl)) rfl
theorem kw_397 : (Jvm.Cond.code ({ cls := "ContractLoaders$Library", name := "defined", desc := "(LContractLoaders$Loader;I)LContractLoaders$LoadedClass;" } : Jvm.MethodName) prog_5_method_9_code (4 : Nat) (Option.some (Jvm.ClassFile.FieldType.object "ContractLoaders$LoadedClass"))) ∈ wsG := xg_tab (xc2 (List.mem_of_getElem? (i := 157) rfl)) rfl
theorem kw_398 : (Jvm.Cond.methodLink "ContractLoadersLaw" (52 : Nat) ({ cls := "ContractLoaders", name := "release", desc := "(I)I" } : Jvm.MethodName)) ∈ wsG := xg_tab (xc2 (List.mem_of_getElem? (i := 158) rfl)) rfl
theorem kw_399 : (Jvm.Cond.instanceMethod ({ cls := "ContractLoaders", name := "release", desc := "(I)I" } : Jvm.MethodName)) ∈ wsG := xg_tab (xc2 (List.mem_of_getElem? (i := 159) rfl)) rfl
theorem kw_400 : (Jvm.Cond.selects "ContractLoaders" ({ cls := "ContractLoaders", name := "release", desc := "(I)I" } : Jvm.MethodName) ({ cls := "ContractLoaders", name := "release", desc := "(I)I" } : Jvm.MethodName)) ∈ wsG := xg_tab (xc2 (List.mem_of_getElem? (i := 160) rfl)) rfl
theorem kw_401 : (Jvm.Cond.code ({ cls := "ContractLoaders", name := "release", desc := "(I)I" } : Jvm.MethodName) prog_1_method_9_code (3 : Nat) (Option.some Jvm.ClassFile.FieldType.int)) ∈ wsG := xg_tab (xc2 (List.mem_of_getElem? (i := 161) rfl)) rfl
theorem kw_402 : (Jvm.Cond.methodLink "ContractLoaders" (107 : Nat) ({ cls := "ContractLoaders$Library", name := "letGo", desc := "(LContractLoaders$Loader;)I" } : Jvm.MethodName)) ∈ wsG := xg_tab (xc2 (List.mem_of_getElem? (i := 162) rfl)) rfl
theorem kw_403 : (Jvm.Cond.instanceMethod ({ cls := "ContractLoaders$Library", name := "letGo", desc := "(LContractLoaders$Loader;)I" } : Jvm.MethodName)) ∈ wsG := xg_tab (xc2 (List.mem_of_getElem? (i := 163) rfl)) rfl
theorem kw_404 : (Jvm.Cond.selects "ContractLoaders$Library" ({ cls := "ContractLoaders$Library", name := "letGo", desc := "(LContractLoaders$Loader;)I" } : Jvm.MethodName) ({ cls := "ContractLoaders$Library", name := "letGo", desc := "(LContractLoaders$Loader;)I" } : Jvm.MethodName)) ∈ wsG := xg_tab (xc2 (List.mem_of_getElem? (i := 164) rfl)) rfl
theorem kw_405 : (Jvm.Cond.code ({ cls := "ContractLoaders$Library", name := "letGo", desc := "(LContractLoaders$Loader;)I" } : Jvm.MethodName) prog_5_method_10_code (4 : Nat) (Option.some Jvm.ClassFile.FieldType.int)) ∈ wsG := xg_tab (xc2 (List.mem_of_getElem? (i := 165) rfl)) rfl
theorem kw_406 : (Jvm.Cond.methodLink "ContractLoaders$Library" (65 : Nat) ({ cls := "ContractLoaders$Loader", name := "isBelow", desc := "(LContractLoaders$Loader;)Z" } : Jvm.MethodName)) ∈ wsG := xg_tab (xc2 (List.mem_of_getElem? (i := 166) rfl)) rfl
theorem kw_407 : (Jvm.Cond.instanceMethod ({ cls := "ContractLoaders$Loader", name := "isBelow", desc := "(LContractLoaders$Loader;)Z" } : Jvm.MethodName)) ∈ wsG := xg_tab (xc2 (List.mem_of_getElem? (i := 167) rfl)) rfl
theorem kw_408 : (Jvm.Cond.selects "ContractLoaders$Loader" ({ cls := "ContractLoaders$Loader", name := "isBelow", desc := "(LContractLoaders$Loader;)Z" } : Jvm.MethodName) ({ cls := "ContractLoaders$Loader", name := "isBelow", desc := "(LContractLoaders$Loader;)Z" } : Jvm.MethodName)) ∈ wsG := xg_tab (xc2 (List.mem_of_getElem? (i := 168) rfl)) rfl
theorem kw_409 : (Jvm.Cond.code ({ cls := "ContractLoaders$Loader", name := "isBelow", desc := "(LContractLoaders$Loader;)Z" } : Jvm.MethodName) prog_7_method_3_code (3 : Nat) (Option.some Jvm.ClassFile.FieldType.boolean)) ∈ wsG := xg_tab (xc2 (List.mem_of_getElem? (i := 169) rfl)) rfl
theorem kw_410 : (Jvm.Cond.methodLink "ContractLoaders$Library" (69 : Nat) ({ cls := "ContractLoaders$Loader", name := "forgetClasses", desc := "()I" } : Jvm.MethodName)) ∈ wsG := xg_tab (xc2 (List.mem_of_getElem? (i := 170) rfl)) rfl
theorem kw_411 : (Jvm.Cond.instanceMethod ({ cls := "ContractLoaders$Loader", name := "forgetClasses", desc := "()I" } : Jvm.MethodName)) ∈ wsG := xg_tab (xc2 (List.mem_of_getElem? (i := 171) rfl)) rfl
theorem kw_412 : (Jvm.Cond.selects "ContractLoaders$Loader" ({ cls := "ContractLoaders$Loader", name := "forgetClasses", desc := "()I" } : Jvm.MethodName) ({ cls := "ContractLoaders$Loader", name := "forgetClasses", desc := "()I" } : Jvm.MethodName)) ∈ wsG := xg_tab (xc2 (List.mem_of_getElem? (i := 172) rfl)) rfl
theorem kw_413 : (Jvm.Cond.code ({ cls := "ContractLoaders$Loader", name := "forgetClasses", desc := "()I" } : Jvm.MethodName) prog_7_method_4_code (3 : Nat) (Option.some Jvm.ClassFile.FieldType.int)) ∈ wsG := xg_tab (xc2 (List.mem_of_getElem? (i := 173) rfl)) rfl
theorem kw_414 : (Jvm.Cond.methodLink "ContractLoadersLaw" (56 : Nat) ({ cls := "ContractLoaders", name := "below", desc := "(IIII)I" } : Jvm.MethodName)) ∈ wsG := xg_tab (xc2 (List.mem_of_getElem? (i := 174) rfl)) rfl
theorem kw_415 : (Jvm.Cond.instanceMethod ({ cls := "ContractLoaders", name := "below", desc := "(IIII)I" } : Jvm.MethodName)) ∈ wsG := xg_tab (xc2 (List.mem_of_getElem? (i := 175) rfl)) rfl
theorem kw_416 : (Jvm.Cond.selects "ContractLoaders" ({ cls := "ContractLoaders", name := "below", desc := "(IIII)I" } : Jvm.MethodName) ({ cls := "ContractLoaders", name := "below", desc := "(IIII)I" } : Jvm.MethodName)) ∈ wsG := xg_tab (xc2 (List.mem_of_getElem? (i := 176) rfl)) rfl
theorem kw_417 : (Jvm.Cond.code ({ cls := "ContractLoaders", name := "below", desc := "(IIII)I" } : Jvm.MethodName) prog_1_method_10_code (9 : Nat) (Option.some Jvm.ClassFile.FieldType.int)) ∈ wsG := xg_tab (xc2 (List.mem_of_getElem? (i := 177) rfl)) rfl
theorem kw_418 : (Jvm.Cond.methodLink "ContractLoaders" (116 : Nat) ({ cls := "ContractLoaders$LoadedClass", name := "isBelow", desc := "(LContractLoaders$LoadedClass;)Z" } : Jvm.MethodName)) ∈ wsG := xg_tab (xc2 (List.mem_of_getElem? (i := 178) rfl)) rfl
theorem kw_419 : (Jvm.Cond.instanceMethod ({ cls := "ContractLoaders$LoadedClass", name := "isBelow", desc := "(LContractLoaders$LoadedClass;)Z" } : Jvm.MethodName)) ∈ wsG := xg_tab (xc2 (List.mem_of_getElem? (i := 179) rfl)) rfl
theorem kw_420 : (Jvm.Cond.selects "ContractLoaders$LoadedClass" ({ cls := "ContractLoaders$LoadedClass", name := "isBelow", desc := "(LContractLoaders$LoadedClass;)Z" } : Jvm.MethodName) ({ cls := "ContractLoaders$LoadedClass", name := "isBelow", desc := "(LContractLoaders$LoadedClass;)Z" } : Jvm.MethodName)) ∈ wsG := xg_tab (xc2 (List.mem_of_getElem? (i := 180) rfl)) rfl
theorem kw_421 : (Jvm.Cond.code ({ cls := "ContractLoaders$LoadedClass", name := "isBelow", desc := "(LContractLoaders$LoadedClass;)Z" } : Jvm.MethodName) prog_6_method_5_code (2 : Nat) (Option.some Jvm.ClassFile.FieldType.boolean)) ∈ wsG := xg_tab (xc2 (List.mem_of_getElem? (i := 181) rfl)) rfl
theorem kw_422 : (Jvm.Cond.methodLink "ContractLoadersLaw" (61 : Nat) ({ cls := "ContractLoaders", name := "deploy", desc := "(II)I" } : Jvm.MethodName)) ∈ wsG := xg_tab (xc2 (List.mem_of_getElem? (i := 182) rfl)) rfl
theorem kw_423 : (Jvm.Cond.instanceMethod ({ cls := "ContractLoaders", name := "deploy", desc := "(II)I" } : Jvm.MethodName)) ∈ wsG := xg_tab (xc2 (List.mem_of_getElem? (i := 183) rfl)) rfl
theorem kw_424 : (Jvm.Cond.selects "ContractLoaders" ({ cls := "ContractLoaders", name := "deploy", desc := "(II)I" } : Jvm.MethodName) ({ cls := "ContractLoaders", name := "deploy", desc := "(II)I" } : Jvm.MethodName)) ∈ wsG := xg_tab (xc2 (List.mem_of_getElem? (i := 184) rfl)) rfl
theorem kw_425 : (Jvm.Cond.code ({ cls := "ContractLoaders", name := "deploy", desc := "(II)I" } : Jvm.MethodName) prog_1_method_11_code (5 : Nat) (Option.some Jvm.ClassFile.FieldType.int)) ∈ wsG := xg_tab (xc2 (List.mem_of_getElem? (i := 185) rfl)) rfl
theorem kw_426 : (Jvm.Cond.methodLink "ContractLoaders" (125 : Nat) ({ cls := "ContractLoaders$Library", name := "foundNoFace", desc := "(LContractLoaders$Loader;I)LContractLoaders$LoadedClass;" } : Jvm.MethodName)) ∈ wsG := xg_tab (xc2 (List.mem_of_getElem? (i := 186) rfl)) rfl
theorem kw_427 : (Jvm.Cond.instanceMethod ({ cls := "ContractLoaders$Library", name := "foundNoFace", desc := "(LContractLoaders$Loader;I)LContractLoaders$LoadedClass;" } : Jvm.MethodName)) ∈ wsG := xg_tab (xc2 (List.mem_of_getElem? (i := 187) rfl)) rfl
theorem kw_428 : (Jvm.Cond.selects "ContractLoaders$Library" ({ cls := "ContractLoaders$Library", name := "foundNoFace", desc := "(LContractLoaders$Loader;I)LContractLoaders$LoadedClass;" } : Jvm.MethodName) ({ cls := "ContractLoaders$Library", name := "foundNoFace", desc := "(LContractLoaders$Loader;I)LContractLoaders$LoadedClass;" } : Jvm.MethodName)) ∈ wsG := xg_tab (xc2 (List.mem_of_getElem? (i := 188) rfl)) rfl
theorem kw_429 : (Jvm.Cond.code ({ cls := "ContractLoaders$Library", name := "foundNoFace", desc := "(LContractLoaders$Loader;I)LContractLoaders$LoadedClass;" } : Jvm.MethodName) prog_5_method_7_code (4 : Nat) (Option.some (Jvm.ClassFile.FieldType.object "ContractLoaders$LoadedClass"))) ∈ wsG := xg_tab (xc2 (List.mem_of_getElem? (i := 189) rfl)) rfl
theorem kw_430 : (Jvm.Cond.methodLink "ContractLoaders" (135 : Nat) ({ cls := "ContractLoaders$Machine", name := "addContract", desc := "(LContractLoaders$Loader;II)I" } : Jvm.MethodName)) ∈ wsG := xg_tab (xc2 (List.mem_of_getElem? (i := 190) rfl)) rfl
theorem kw_431 : (Jvm.Cond.instanceMethod ({ cls := "ContractLoaders$Machine", name := "addContract", desc := "(LContractLoaders$Loader;II)I" } : Jvm.MethodName)) ∈ wsG := xg_tab (xc2 (List.mem_of_getElem? (i := 191) rfl)) rfl
theorem kw_432 : (Jvm.Cond.selects "ContractLoaders$Machine" ({ cls := "ContractLoaders$Machine", name := "addContract", desc := "(LContractLoaders$Loader;II)I" } : Jvm.MethodName) ({ cls := "ContractLoaders$Machine", name := "addContract", desc := "(LContractLoaders$Loader;II)I" } : Jvm.MethodName)) ∈ wsG := xg_tab (xc2 (List.mem_of_getElem? (i := 192) rfl)) rfl
theorem kw_433 : (Jvm.Cond.code ({ cls := "ContractLoaders$Machine", name := "addContract", desc := "(LContractLoaders$Loader;II)I" } : Jvm.MethodName) prog_8_method_3_code (4 : Nat) (Option.some Jvm.ClassFile.FieldType.int)) ∈ wsG := xg_tab (xc2 (List.mem_of_getElem? (i := 193) rfl)) rfl
theorem kw_434 : (Jvm.Cond.instantiable "ContractLoaders$Contract" (4 : Nat)) ∈ wsG := xg_tab (xc2 (List.mem_of_getElem? (i := 194) rfl)) rfl
theorem kw_435 : (Jvm.Cond.methodLink "ContractLoaders$Machine" (41 : Nat) ({ cls := "ContractLoaders$Contract", name := "<init>", desc := "(IILContractLoaders$Loader;I)V" } : Jvm.MethodName)) ∈ wsG := xg_tab (xc2 (List.mem_of_getElem? (i := 195) rfl)) rfl
theorem kw_436 : (Jvm.Cond.instanceMethod ({ cls := "ContractLoaders$Contract", name := "<init>", desc := "(IILContractLoaders$Loader;I)V" } : Jvm.MethodName)) ∈ wsG := xg_tab (xc2 (List.mem_of_getElem? (i := 196) rfl)) rfl
theorem kw_437 : (Jvm.Cond.code ({ cls := "ContractLoaders$Contract", name := "<init>", desc := "(IILContractLoaders$Loader;I)V" } : Jvm.MethodName) prog_3_method_1_code (5 : Nat) (Option.none : Option Jvm.ClassFile.FieldType)) ∈ wsG := xg_tab (xc2 (List.mem_of_getElem? (i := 197) rfl)) rfl
theorem kw_438 : (Jvm.Cond.methodLink "ContractLoaders$Contract" (3 : Nat) ({ cls := "java/lang/Object", name := "<init>", desc := "()V" } : Jvm.MethodName)) ∈ wsG := xg_tab (xc2 (List.mem_of_getElem? (i := 198) rfl)) rfl
theorem kw_439 : (Jvm.Cond.fieldLink "ContractLoaders$Contract" (9 : Nat) "ContractLoaders$Contract" "number" "I") ∈ wsG := xg_tab (xc2 (List.mem_of_getElem? (i := 199) rfl)) rfl
theorem kw_440 : (Jvm.Cond.fieldLink "ContractLoaders$Contract" (15 : Nat) "ContractLoaders$Contract" "lane" "I") ∈ wsG := xg_tab (xc2 (List.mem_of_getElem? (i := 200) rfl)) rfl
theorem kw_441 : (Jvm.Cond.fieldLink "ContractLoaders$Machine" (200 : Nat) "ContractLoaders$Contract" "lane" "I") ∈ wsG := xg_tab (xc2 (List.mem_of_getElem? (i := 201) rfl)) rfl
theorem kw_442 : (Jvm.Cond.fieldLink "ContractLoaders" (152 : Nat) "ContractLoaders$Contract" "lane" "I") ∈ wsG := xg_tab (xc2 (List.mem_of_getElem? (i := 202) rfl)) rfl
theorem kw_443 : (Jvm.Cond.fieldLink "ContractLoaders$Contract" (18 : Nat) "ContractLoaders$Contract" "loader" "LContractLoaders$Loader;") ∈ wsG := xg_tab (xc2 (List.mem_of_getElem? (i := 203) rfl)) rfl
theorem kw_444 : (Jvm.Cond.fieldLink "ContractLoaders$Machine" (85 : Nat) "ContractLoaders$Contract" "loader" "LContractLoaders$Loader;") ∈ wsG := xg_tab (xc2 (List.mem_of_getElem? (i := 204) rfl)) rfl
theorem kw_445 : (Jvm.Cond.fieldLink "ContractLoaders" (143 : Nat) "ContractLoaders$Contract" "loader" "LContractLoaders$Loader;") ∈ wsG := xg_tab (xc2 (List.mem_of_getElem? (i := 205) rfl)) rfl
theorem kw_446 : (Jvm.Cond.fieldLink "ContractLoaders$Contract" (22 : Nat) "ContractLoaders$Contract" "name" "I") ∈ wsG := xg_tab (xc2 (List.mem_of_getElem? (i := 206) rfl)) rfl
theorem kw_447 : (Jvm.Cond.fieldLink "ContractLoaders$Machine" (89 : Nat) "ContractLoaders$Contract" "name" "I") ∈ wsG := xg_tab (xc2 (List.mem_of_getElem? (i := 207) rfl)) rfl
theorem kw_448 : (Jvm.Cond.fieldLink "ContractLoaders" (149 : Nat) "ContractLoaders$Contract" "name" "I") ∈ wsG := xg_tab (xc2 (List.mem_of_getElem? (i := 208) rfl)) rfl
theorem kw_449 : (Jvm.Cond.laysFinal "ContractLoaders$Contract" "ContractLoaders$Contract" "number" "I") ∈ wsG := xg_tab (xc2 (List.mem_of_getElem? (i := 209) rfl)) rfl
theorem kw_450 : (Jvm.Cond.soleField "ContractLoaders$Contract" "number") ∈ tables_1 := xc2 (List.mem_of_getElem? (i := 210) rfl)
theorem kw_451 : (Jvm.Cond.laysFinal "ContractLoaders$Contract" "ContractLoaders$Contract" "lane" "I") ∈ wsG := xg_tab (xc2 (List.mem_of_getElem? (i := 211) rfl)) rfl
theorem kw_452 : (Jvm.Cond.soleField "ContractLoaders$Contract" "lane") ∈ tables_1 := xc2 (List.mem_of_getElem? (i := 212) rfl)
theorem kw_453 : (Jvm.Cond.lays "ContractLoaders$Contract" "ContractLoaders$Contract" "loader" "LContractLoaders$Loader;") ∈ wsG := xg_tab (xc2 (List.mem_of_getElem? (i := 213) rfl)) rfl
theorem kw_454 : (Jvm.Cond.soleField "ContractLoaders$Contract" "loader") ∈ tables_1 := xc2 (List.mem_of_getElem? (i := 214) rfl)
theorem kw_455 : (Jvm.Cond.lays "ContractLoaders$Contract" "ContractLoaders$Contract" "name" "I") ∈ wsG := xg_tab (xc2 (List.mem_of_getElem? (i := 215) rfl)) rfl
theorem kw_456 : (Jvm.Cond.soleField "ContractLoaders$Contract" "name") ∈ tables_1 := xc2 (List.mem_of_getElem? (i := 216) rfl)
theorem kw_457 : (Jvm.Cond.superclass "ContractLoaders$Contract" "java/lang/Object") ∈ tables_1 := xc2 (List.mem_of_getElem? (i := 217) rfl)
theorem kw_458 : (Jvm.Cond.methodLink "ContractLoadersLaw" (65 : Nat) ({ cls := "ContractLoaders", name := "upgrade", desc := "(III)I" } : Jvm.MethodName)) ∈ wsG := xg_tab (xc2 (List.mem_of_getElem? (i := 218) rfl)) rfl
theorem kw_459 : (Jvm.Cond.instanceMethod ({ cls := "ContractLoaders", name := "upgrade", desc := "(III)I" } : Jvm.MethodName)) ∈ wsG := xg_tab (xc2 (List.mem_of_getElem? (i := 219) rfl)) rfl
theorem kw_460 : (Jvm.Cond.selects "ContractLoaders" ({ cls := "ContractLoaders", name := "upgrade", desc := "(III)I" } : Jvm.MethodName) ({ cls := "ContractLoaders", name := "upgrade", desc := "(III)I" } : Jvm.MethodName)) ∈ wsG := xg_tab (xc2 (List.mem_of_getElem? (i := 220) rfl)) rfl
theorem kw_461 : (Jvm.Cond.code ({ cls := "ContractLoaders", name := "upgrade", desc := "(III)I" } : Jvm.MethodName) prog_1_method_12_code (6 : Nat) (Option.some Jvm.ClassFile.FieldType.int)) ∈ wsG := xg_tab (xc2 (List.mem_of_getElem? (i := 221) rfl)) rfl
theorem kw_462 : (Jvm.Cond.methodLink "ContractLoaders" (139 : Nat) ({ cls := "ContractLoaders$Machine", name := "contractAt", desc := "(I)LContractLoaders$Contract;" } : Jvm.MethodName)) ∈ wsG := xg_tab (xc2 (List.mem_of_getElem? (i := 222) rfl)) rfl
theorem kw_463 : (Jvm.Cond.instanceMethod ({ cls := "ContractLoaders$Machine", name := "contractAt", desc := "(I)LContractLoaders$Contract;" } : Jvm.MethodName)) ∈ wsG := xg_tab (xc2 (List.mem_of_getElem? (i := 223) rfl)) rfl
theorem kw_464 : (Jvm.Cond.selects "ContractLoaders$Machine" ({ cls := "ContractLoaders$Machine", name := "contractAt", desc := "(I)LContractLoaders$Contract;" } : Jvm.MethodName) ({ cls := "ContractLoaders$Machine", name := "contractAt", desc := "(I)LContractLoaders$Contract;" } : Jvm.MethodName)) ∈ wsG := xg_tab (xc2 (List.mem_of_getElem? (i := 224) rfl)) rfl
theorem kw_465 : (Jvm.Cond.code ({ cls := "ContractLoaders$Machine", name := "contractAt", desc := "(I)LContractLoaders$Contract;" } : Jvm.MethodName) prog_8_method_2_code (2 : Nat) (Option.some (Jvm.ClassFile.FieldType.object "ContractLoaders$Contract"))) ∈ wsG := xg_tab (xc2 (List.mem_of_getElem? (i := 225) rfl)) rfl
theorem kw_466 : (Jvm.Cond.methodLink "ContractLoadersLaw" (69 : Nat) ({ cls := "ContractLoaders", name := "move", desc := "(IIII)I" } : Jvm.MethodName)) ∈ wsG := xg_tab (xc2 (List.mem_of_getElem? (i := 226) rfl)) rfl
theorem kw_467 : (Jvm.Cond.instanceMethod ({ cls := "ContractLoaders", name := "move", desc := "(IIII)I" } : Jvm.MethodName)) ∈ wsG := xg_tab (xc2 (List.mem_of_getElem? (i := 227) rfl)) rfl
theorem kw_468 : (Jvm.Cond.selects "ContractLoaders" ({ cls := "ContractLoaders", name := "move", desc := "(IIII)I" } : Jvm.MethodName) ({ cls := "ContractLoaders", name := "move", desc := "(IIII)I" } : Jvm.MethodName)) ∈ wsG := xg_tab (xc2 (List.mem_of_getElem? (i := 228) rfl)) rfl
theorem kw_469 : (Jvm.Cond.code ({ cls := "ContractLoaders", name := "move", desc := "(IIII)I" } : Jvm.MethodName) prog_1_method_13_code (6 : Nat) (Option.some Jvm.ClassFile.FieldType.int)) ∈ wsG := xg_tab (xc2 (List.mem_of_getElem? (i := 229) rfl)) rfl
theorem kw_470 : (Jvm.Cond.methodLink "ContractLoaders" (157 : Nat) ({ cls := "ContractLoaders$Contract", name := "firstCell", desc := "()I" } : Jvm.MethodName)) ∈ wsG := xg_tab (xc2 (List.mem_of_getElem? (i := 230) rfl)) rfl
theorem kw_471 : (Jvm.Cond.instanceMethod ({ cls := "ContractLoaders$Contract", name := "firstCell", desc := "()I" } : Jvm.MethodName)) ∈ wsG := xg_tab (xc2 (List.mem_of_getElem? (i := 231) rfl)) rfl
theorem kw_472 : (Jvm.Cond.selects "ContractLoaders$Contract" ({ cls := "ContractLoaders$Contract", name := "firstCell", desc := "()I" } : Jvm.MethodName) ({ cls := "ContractLoaders$Contract", name := "firstCell", desc := "()I" } : Jvm.MethodName)) ∈ wsG := xg_tab (xc2 (List.mem_of_getElem? (i := 232) rfl)) rfl
theorem kw_473 : (Jvm.Cond.code ({ cls := "ContractLoaders$Contract", name := "firstCell", desc := "()I" } : Jvm.MethodName) prog_3_method_2_code (1 : Nat) (Option.some Jvm.ClassFile.FieldType.int)) ∈ wsG := xg_tab (xc2 (List.mem_of_getElem? (i := 233) rfl)) rfl
theorem kw_474 : (Jvm.Cond.methodLink "ContractLoaders" (161 : Nat) ({ cls := "ContractLoaders$Rows", name := "shift", desc := "(III)V" } : Jvm.MethodName)) ∈ wsG := xg_tab (xc2 (List.mem_of_getElem? (i := 234) rfl)) rfl
theorem kw_475 : (Jvm.Cond.instanceMethod ({ cls := "ContractLoaders$Rows", name := "shift", desc := "(III)V" } : Jvm.MethodName)) ∈ wsG := xg_tab (xc2 (List.mem_of_getElem? (i := 235) rfl)) rfl
theorem kw_476 : (Jvm.Cond.selects "ContractLoaders$Rows" ({ cls := "ContractLoaders$Rows", name := "shift", desc := "(III)V" } : Jvm.MethodName) ({ cls := "ContractLoaders$Rows", name := "shift", desc := "(III)V" } : Jvm.MethodName)) ∈ wsG := xg_tab (xc2 (List.mem_of_getElem? (i := 236) rfl)) rfl
theorem kw_477 : (Jvm.Cond.code ({ cls := "ContractLoaders$Rows", name := "shift", desc := "(III)V" } : Jvm.MethodName) prog_9_method_3_code (5 : Nat) (Option.none : Option Jvm.ClassFile.FieldType)) ∈ wsG := xg_tab (xc2 (List.mem_of_getElem? (i := 237) rfl)) rfl
theorem kw_478 : (Jvm.Cond.methodLink "ContractLoaders$Rows" (19 : Nat) ({ cls := "java/lang/System", name := "arraycopy", desc := "(Ljava/lang/Object;ILjava/lang/Object;II)V" } : Jvm.MethodName)) ∈ wsG := xg_tab (xc2 (List.mem_of_getElem? (i := 238) rfl)) rfl
theorem kw_479 : (Jvm.Cond.static ({ cls := "java/lang/System", name := "arraycopy", desc := "(Ljava/lang/Object;ILjava/lang/Object;II)V" } : Jvm.MethodName)) ∈ wsG := xg_tab (xc2 (List.mem_of_getElem? (i := 239) rfl)) rfl
theorem kw_480 : (Jvm.Cond.native ({ cls := "java/lang/System", name := "arraycopy", desc := "(Ljava/lang/Object;ILjava/lang/Object;II)V" } : Jvm.MethodName)) ∈ wsG := xg_tab (xc3 (List.mem_of_getElem? (i := 0) rfl)) rfl
theorem kw_481 : (Jvm.Cond.methodLink "ContractLoadersLaw" (75 : Nat) ({ cls := "ContractLoaders", name := "call", desc := "(IIJ)I" } : Jvm.MethodName)) ∈ wsG := xg_tab (xc3 (List.mem_of_getElem? (i := 1) rfl)) rfl
theorem kw_482 : (Jvm.Cond.instanceMethod ({ cls := "ContractLoaders", name := "call", desc := "(IIJ)I" } : Jvm.MethodName)) ∈ wsG := xg_tab (xc3 (List.mem_of_getElem? (i := 2) rfl)) rfl
theorem kw_483 : (Jvm.Cond.selects "ContractLoaders" ({ cls := "ContractLoaders", name := "call", desc := "(IIJ)I" } : Jvm.MethodName) ({ cls := "ContractLoaders", name := "call", desc := "(IIJ)I" } : Jvm.MethodName)) ∈ wsG := xg_tab (xc3 (List.mem_of_getElem? (i := 3) rfl)) rfl
theorem kw_484 : (Jvm.Cond.code ({ cls := "ContractLoaders", name := "call", desc := "(IIJ)I" } : Jvm.MethodName) prog_1_method_14_code (7 : Nat) (Option.some Jvm.ClassFile.FieldType.int)) ∈ wsG := xg_tab (xc3 (List.mem_of_getElem? (i := 4) rfl)) rfl
theorem kw_485 : (Jvm.Cond.methodLink "ContractLoaders" (167 : Nat) ({ cls := "ContractLoaders$Machine", name := "callFromOutside", desc := "(LContractLoaders$Contract;IJ)I" } : Jvm.MethodName)) ∈ wsG := xg_tab (xc3 (List.mem_of_getElem? (i := 5) rfl)) rfl
theorem kw_486 : (Jvm.Cond.instanceMethod ({ cls := "ContractLoaders$Machine", name := "callFromOutside", desc := "(LContractLoaders$Contract;IJ)I" } : Jvm.MethodName)) ∈ wsG := xg_tab (xc3 (List.mem_of_getElem? (i := 6) rfl)) rfl
theorem kw_487 : (Jvm.Cond.selects "ContractLoaders$Machine" ({ cls := "ContractLoaders$Machine", name := "callFromOutside", desc := "(LContractLoaders$Contract;IJ)I" } : Jvm.MethodName) ({ cls := "ContractLoaders$Machine", name := "callFromOutside", desc := "(LContractLoaders$Contract;IJ)I" } : Jvm.MethodName)) ∈ wsG := xg_tab (xc3 (List.mem_of_getElem? (i := 7) rfl)) rfl
theorem kw_488 : (Jvm.Cond.code ({ cls := "ContractLoaders$Machine", name := "callFromOutside", desc := "(LContractLoaders$Contract;IJ)I" } : Jvm.MethodName) prog_8_method_4_code (7 : Nat) (Option.some Jvm.ClassFile.FieldType.int)) ∈ wsG := xg_tab (xc3 (List.mem_of_getElem? (i := 8) rfl)) rfl
theorem kw_489 : (Jvm.Cond.methodLink "ContractLoaders$Machine" (44 : Nat) ({ cls := "ContractLoaders$Rows", name := "copyFrom", desc := "(LContractLoaders$Rows;)V" } : Jvm.MethodName)) ∈ wsG := xg_tab (xc3 (List.mem_of_getElem? (i := 9) rfl)) rfl
theorem kw_490 : (Jvm.Cond.instanceMethod ({ cls := "ContractLoaders$Rows", name := "copyFrom", desc := "(LContractLoaders$Rows;)V" } : Jvm.MethodName)) ∈ wsG := xg_tab (xc3 (List.mem_of_getElem? (i := 10) rfl)) rfl
theorem kw_491 : (Jvm.Cond.selects "ContractLoaders$Rows" ({ cls := "ContractLoaders$Rows", name := "copyFrom", desc := "(LContractLoaders$Rows;)V" } : Jvm.MethodName) ({ cls := "ContractLoaders$Rows", name := "copyFrom", desc := "(LContractLoaders$Rows;)V" } : Jvm.MethodName)) ∈ wsG := xg_tab (xc3 (List.mem_of_getElem? (i := 11) rfl)) rfl
theorem kw_492 : (Jvm.Cond.code ({ cls := "ContractLoaders$Rows", name := "copyFrom", desc := "(LContractLoaders$Rows;)V" } : Jvm.MethodName) prog_9_method_2_code (2 : Nat) (Option.none : Option Jvm.ClassFile.FieldType)) ∈ wsG := xg_tab (xc3 (List.mem_of_getElem? (i := 12) rfl)) rfl
theorem kw_493 : (Jvm.Cond.methodLink "ContractLoaders$Machine" (52 : Nat) ({ cls := "ContractLoaders$Machine", name := "enter", desc := "(LContractLoaders$Contract;I)I" } : Jvm.MethodName)) ∈ wsG := xg_tab (xc3 (List.mem_of_getElem? (i := 13) rfl)) rfl
theorem kw_494 : (Jvm.Cond.privateMethod ({ cls := "ContractLoaders$Machine", name := "enter", desc := "(LContractLoaders$Contract;I)I" } : Jvm.MethodName)) ∈ tables_1 := xc3 (List.mem_of_getElem? (i := 14) rfl)
theorem kw_495 : (Jvm.Cond.instanceMethod ({ cls := "ContractLoaders$Machine", name := "enter", desc := "(LContractLoaders$Contract;I)I" } : Jvm.MethodName)) ∈ wsG := xg_tab (xc3 (List.mem_of_getElem? (i := 15) rfl)) rfl
theorem kw_496 : (Jvm.Cond.code ({ cls := "ContractLoaders$Machine", name := "enter", desc := "(LContractLoaders$Contract;I)I" } : Jvm.MethodName) prog_8_method_5_code (5 : Nat) (Option.some Jvm.ClassFile.FieldType.int)) ∈ wsG := xg_tab (xc3 (List.mem_of_getElem? (i := 16) rfl)) rfl
theorem kw_497 : (Jvm.Cond.methodLink "ContractLoaders$Machine" (79 : Nat) ({ cls := "java/lang/Math", name := "max", desc := "(II)I" } : Jvm.MethodName)) ∈ wsG := xg_tab (xc3 (List.mem_of_getElem? (i := 17) rfl)) rfl
theorem kw_498 : (Jvm.Cond.static ({ cls := "java/lang/Math", name := "max", desc := "(II)I" } : Jvm.MethodName)) ∈ wsG := xg_tab (xc3 (List.mem_of_getElem? (i := 18) rfl)) rfl
theorem kw_499 : (Jvm.Cond.code ({ cls := "java/lang/Math", name := "max", desc := "(II)I" } : Jvm.MethodName) prog_15_method_65_code (2 : Nat) (Option.some Jvm.ClassFile.FieldType.int)) ∈ wsG := xg_tab (xc3 (List.mem_of_getElem? (i := 19) rfl)) rfl
theorem kw_500 : (Jvm.Cond.methodLinkNest "ContractLoaders$Machine" (92 : Nat) ({ cls := "ContractLoaders$Library", name := "found", desc := "(LContractLoaders$Loader;II)LContractLoaders$LoadedClass;" } : Jvm.MethodName) "ContractLoaders") ∈ tables_1 := xc3 (List.mem_of_getElem? (i := 20) rfl)
theorem kw_501 : (Jvm.Cond.methodLink "ContractLoaders$Machine" (101 : Nat) ({ cls := "ContractLoaders$Machine", name := "push", desc := "(ZLContractLoaders$Contract;LContractLoaders$LoadedClass;LContractLoaders$LoadedClass;I)I" } : Jvm.MethodName)) ∈ wsG := xg_tab (xc3 (List.mem_of_getElem? (i := 21) rfl)) rfl
theorem kw_502 : (Jvm.Cond.privateMethod ({ cls := "ContractLoaders$Machine", name := "push", desc := "(ZLContractLoaders$Contract;LContractLoaders$LoadedClass;LContractLoaders$LoadedClass;I)I" } : Jvm.MethodName)) ∈ tables_1 := xc3 (List.mem_of_getElem? (i := 22) rfl)
theorem kw_503 : (Jvm.Cond.instanceMethod ({ cls := "ContractLoaders$Machine", name := "push", desc := "(ZLContractLoaders$Contract;LContractLoaders$LoadedClass;LContractLoaders$LoadedClass;I)I" } : Jvm.MethodName)) ∈ wsG := xg_tab (xc3 (List.mem_of_getElem? (i := 23) rfl)) rfl
theorem kw_504 : (Jvm.Cond.code ({ cls := "ContractLoaders$Machine", name := "push", desc := "(ZLContractLoaders$Contract;LContractLoaders$LoadedClass;LContractLoaders$LoadedClass;I)I" } : Jvm.MethodName) prog_8_method_6_code (7 : Nat) (Option.some Jvm.ClassFile.FieldType.int)) ∈ wsG := xg_tab (xc3 (List.mem_of_getElem? (i := 24) rfl)) rfl
theorem kw_505 : (Jvm.Cond.methodLink "ContractLoaders$Machine" (105 : Nat) ({ cls := "ContractLoaders$Machine", name := "firstWithActs", desc := "(LContractLoaders$LoadedClass;I)LContractLoaders$LoadedClass;" } : Jvm.MethodName)) ∈ wsG := xg_tab (xc3 (List.mem_of_getElem? (i := 25) rfl)) rfl
theorem kw_506 : (Jvm.Cond.static ({ cls := "ContractLoaders$Machine", name := "firstWithActs", desc := "(LContractLoaders$LoadedClass;I)LContractLoaders$LoadedClass;" } : Jvm.MethodName)) ∈ wsG := xg_tab (xc3 (List.mem_of_getElem? (i := 26) rfl)) rfl
theorem kw_507 : (Jvm.Cond.code ({ cls := "ContractLoaders$Machine", name := "firstWithActs", desc := "(LContractLoaders$LoadedClass;I)LContractLoaders$LoadedClass;" } : Jvm.MethodName) prog_8_method_7_code (3 : Nat) (Option.some (Jvm.ClassFile.FieldType.object "ContractLoaders$LoadedClass"))) ∈ wsG := xg_tab (xc3 (List.mem_of_getElem? (i := 27) rfl)) rfl
theorem kw_508 : (Jvm.Cond.methodLink "ContractLoaders$Machine" (120 : Nat) ({ cls := "ContractLoaders$ClassFile", name := "actCount", desc := "(I)I" } : Jvm.MethodName)) ∈ wsG := xg_tab (xc3 (List.mem_of_getElem? (i := 28) rfl)) rfl
theorem kw_509 : (Jvm.Cond.instantiable "ContractLoaders$Frame" (8 : Nat)) ∈ wsG := xg_tab (xc3 (List.mem_of_getElem? (i := 29) rfl)) rfl
theorem kw_510 : (Jvm.Cond.methodLinkNest "ContractLoaders$Machine" (109 : Nat) ({ cls := "ContractLoaders$Frame", name := "<init>", desc := "()V" } : Jvm.MethodName) "ContractLoaders") ∈ tables_1 := xc3 (List.mem_of_getElem? (i := 30) rfl)
theorem kw_511 : (Jvm.Cond.instanceMethod ({ cls := "ContractLoaders$Frame", name := "<init>", desc := "()V" } : Jvm.MethodName)) ∈ wsG := xg_tab (xc3 (List.mem_of_getElem? (i := 31) rfl)) rfl
theorem kw_512 : (Jvm.Cond.code ({ cls := "ContractLoaders$Frame", name := "<init>", desc := "()V" } : Jvm.MethodName) prog_4_method_1_code (1 : Nat) (Option.none : Option Jvm.ClassFile.FieldType)) ∈ wsG := xg_tab (xc3 (List.mem_of_getElem? (i := 32) rfl)) rfl
theorem kw_513 : (Jvm.Cond.methodLink "ContractLoaders$Frame" (3 : Nat) ({ cls := "java/lang/Object", name := "<init>", desc := "()V" } : Jvm.MethodName)) ∈ wsG := xg_tab (xc3 (List.mem_of_getElem? (i := 33) rfl)) rfl
theorem kw_514 : (Jvm.Cond.fieldLink "ContractLoaders$Frame" (9 : Nat) "ContractLoaders$Frame" "ofCall" "Z") ∈ wsG := xg_tab (xc3 (List.mem_of_getElem? (i := 34) rfl)) rfl
theorem kw_515 : (Jvm.Cond.fieldLink "ContractLoaders$Machine" (130 : Nat) "ContractLoaders$Frame" "ofCall" "Z") ∈ wsG := xg_tab (xc3 (List.mem_of_getElem? (i := 35) rfl)) rfl
theorem kw_516 : (Jvm.Cond.fieldLink "ContractLoaders$Frame" (15 : Nat) "ContractLoaders$Frame" "contract" "LContractLoaders$Contract;") ∈ wsG := xg_tab (xc3 (List.mem_of_getElem? (i := 36) rfl)) rfl
theorem kw_517 : (Jvm.Cond.fieldLink "ContractLoaders$Machine" (180 : Nat) "ContractLoaders$Frame" "contract" "LContractLoaders$Contract;") ∈ wsG := xg_tab (xc3 (List.mem_of_getElem? (i := 37) rfl)) rfl
theorem kw_518 : (Jvm.Cond.fieldLink "ContractLoaders$Frame" (19 : Nat) "ContractLoaders$Frame" "held" "LContractLoaders$LoadedClass;") ∈ wsG := xg_tab (xc3 (List.mem_of_getElem? (i := 38) rfl)) rfl
theorem kw_519 : (Jvm.Cond.fieldLink "ContractLoaders$Machine" (184 : Nat) "ContractLoaders$Frame" "held" "LContractLoaders$LoadedClass;") ∈ wsG := xg_tab (xc3 (List.mem_of_getElem? (i := 39) rfl)) rfl
theorem kw_520 : (Jvm.Cond.fieldLink "ContractLoaders$Frame" (23 : Nat) "ContractLoaders$Frame" "runs" "LContractLoaders$LoadedClass;") ∈ wsG := xg_tab (xc3 (List.mem_of_getElem? (i := 40) rfl)) rfl
theorem kw_521 : (Jvm.Cond.fieldLink "ContractLoaders$Machine" (150 : Nat) "ContractLoaders$Frame" "runs" "LContractLoaders$LoadedClass;") ∈ wsG := xg_tab (xc3 (List.mem_of_getElem? (i := 41) rfl)) rfl
theorem kw_522 : (Jvm.Cond.fieldLink "ContractLoaders$Frame" (26 : Nat) "ContractLoaders$Frame" "method" "I") ∈ wsG := xg_tab (xc3 (List.mem_of_getElem? (i := 42) rfl)) rfl
theorem kw_523 : (Jvm.Cond.fieldLink "ContractLoaders$Machine" (153 : Nat) "ContractLoaders$Frame" "method" "I") ∈ wsG := xg_tab (xc3 (List.mem_of_getElem? (i := 43) rfl)) rfl
theorem kw_524 : (Jvm.Cond.fieldLink "ContractLoaders$Frame" (30 : Nat) "ContractLoaders$Frame" "next" "I") ∈ wsG := xg_tab (xc3 (List.mem_of_getElem? (i := 44) rfl)) rfl
theorem kw_525 : (Jvm.Cond.fieldLink "ContractLoaders$Machine" (156 : Nat) "ContractLoaders$Frame" "next" "I") ∈ wsG := xg_tab (xc3 (List.mem_of_getElem? (i := 45) rfl)) rfl
theorem kw_526 : (Jvm.Cond.fieldLink "ContractLoaders$Frame" (33 : Nat) "ContractLoaders$Frame" "tried" "I") ∈ wsG := xg_tab (xc3 (List.mem_of_getElem? (i := 46) rfl)) rfl
theorem kw_527 : (Jvm.Cond.fieldLink "ContractLoaders$Machine" (254 : Nat) "ContractLoaders$Frame" "tried" "I") ∈ wsG := xg_tab (xc3 (List.mem_of_getElem? (i := 47) rfl)) rfl
theorem kw_528 : (Jvm.Cond.fieldLink "ContractLoaders$Frame" (48 : Nat) "ContractLoaders$Frame" "before" "LContractLoaders$Rows;") ∈ wsG := xg_tab (xc3 (List.mem_of_getElem? (i := 48) rfl)) rfl
theorem kw_529 : (Jvm.Cond.fieldLink "ContractLoaders$Machine" (138 : Nat) "ContractLoaders$Frame" "before" "LContractLoaders$Rows;") ∈ wsG := xg_tab (xc3 (List.mem_of_getElem? (i := 49) rfl)) rfl
theorem kw_530 : (Jvm.Cond.lays "ContractLoaders$Frame" "ContractLoaders$Frame" "ofCall" "Z") ∈ wsG := xg_tab (xc3 (List.mem_of_getElem? (i := 50) rfl)) rfl
theorem kw_531 : (Jvm.Cond.soleField "ContractLoaders$Frame" "ofCall") ∈ tables_1 := xc3 (List.mem_of_getElem? (i := 51) rfl)
theorem kw_532 : (Jvm.Cond.lays "ContractLoaders$Frame" "ContractLoaders$Frame" "contract" "LContractLoaders$Contract;") ∈ wsG := xg_tab (xc3 (List.mem_of_getElem? (i := 52) rfl)) rfl
theorem kw_533 : (Jvm.Cond.soleField "ContractLoaders$Frame" "contract") ∈ tables_1 := xc3 (List.mem_of_getElem? (i := 53) rfl)
theorem kw_534 : (Jvm.Cond.lays "ContractLoaders$Frame" "ContractLoaders$Frame" "held" "LContractLoaders$LoadedClass;") ∈ wsG := xg_tab (xc3 (List.mem_of_getElem? (i := 54) rfl)) rfl
theorem kw_535 : (Jvm.Cond.soleField "ContractLoaders$Frame" "held") ∈ tables_1 := xc3 (List.mem_of_getElem? (i := 55) rfl)
theorem kw_536 : (Jvm.Cond.lays "ContractLoaders$Frame" "ContractLoaders$Frame" "runs" "LContractLoaders$LoadedClass;") ∈ wsG := xg_tab (xc3 (List.mem_of_getElem? (i := 56) rfl)) rfl
theorem kw_537 : (Jvm.Cond.soleField "ContractLoaders$Frame" "runs") ∈ tables_1 := xc3 (List.mem_of_getElem? (i := 57) rfl)
theorem kw_538 : (Jvm.Cond.lays "ContractLoaders$Frame" "ContractLoaders$Frame" "method" "I") ∈ wsG := xg_tab (xc3 (List.mem_of_getElem? (i := 58) rfl)) rfl
theorem kw_539 : (Jvm.Cond.soleField "ContractLoaders$Frame" "method") ∈ tables_1 := xc3 (List.mem_of_getElem? (i := 59) rfl)
theorem kw_540 : (Jvm.Cond.lays "ContractLoaders$Frame" "ContractLoaders$Frame" "next" "I") ∈ wsG := xg_tab (xc3 (List.mem_of_getElem? (i := 60) rfl)) rfl
theorem kw_541 : (Jvm.Cond.soleField "ContractLoaders$Frame" "next") ∈ tables_1 := xc3 (List.mem_of_getElem? (i := 61) rfl)
theorem kw_542 : (Jvm.Cond.lays "ContractLoaders$Frame" "ContractLoaders$Frame" "tried" "I") ∈ wsG := xg_tab (xc3 (List.mem_of_getElem? (i := 62) rfl)) rfl
theorem kw_543 : (Jvm.Cond.soleField "ContractLoaders$Frame" "tried") ∈ tables_1 := xc3 (List.mem_of_getElem? (i := 63) rfl)
theorem kw_544 : (Jvm.Cond.lays "ContractLoaders$Frame" "ContractLoaders$Frame" "before" "LContractLoaders$Rows;") ∈ wsG := xg_tab (xc3 (List.mem_of_getElem? (i := 64) rfl)) rfl
theorem kw_545 : (Jvm.Cond.soleField "ContractLoaders$Frame" "before") ∈ tables_1 := xc3 (List.mem_of_getElem? (i := 65) rfl)
theorem kw_546 : (Jvm.Cond.superclass "ContractLoaders$Frame" "java/lang/Object") ∈ tables_1 := xc3 (List.mem_of_getElem? (i := 66) rfl)
theorem kw_547 : (Jvm.Cond.methodLink "ContractLoaders$Machine" (110 : Nat) ({ cls := "ContractLoaders$Frame", name := "start", desc := "(ZLContractLoaders$Contract;LContractLoaders$LoadedClass;LContractLoaders$LoadedClass;I)V" } : Jvm.MethodName)) ∈ wsG := xg_tab (xc3 (List.mem_of_getElem? (i := 67) rfl)) rfl
theorem kw_548 : (Jvm.Cond.instanceMethod ({ cls := "ContractLoaders$Frame", name := "start", desc := "(ZLContractLoaders$Contract;LContractLoaders$LoadedClass;LContractLoaders$LoadedClass;I)V" } : Jvm.MethodName)) ∈ wsG := xg_tab (xc3 (List.mem_of_getElem? (i := 68) rfl)) rfl
theorem kw_549 : (Jvm.Cond.selects "ContractLoaders$Frame" ({ cls := "ContractLoaders$Frame", name := "start", desc := "(ZLContractLoaders$Contract;LContractLoaders$LoadedClass;LContractLoaders$LoadedClass;I)V" } : Jvm.MethodName) ({ cls := "ContractLoaders$Frame", name := "start", desc := "(ZLContractLoaders$Contract;LContractLoaders$LoadedClass;LContractLoaders$LoadedClass;I)V" } : Jvm.MethodName)) ∈ wsG := xg_tab (xc3 (List.mem_of_getElem? (i := 69) rfl)) rfl
theorem kw_550 : (Jvm.Cond.code ({ cls := "ContractLoaders$Frame", name := "start", desc := "(ZLContractLoaders$Contract;LContractLoaders$LoadedClass;LContractLoaders$LoadedClass;I)V" } : Jvm.MethodName) prog_4_method_2_code (6 : Nat) (Option.none : Option Jvm.ClassFile.FieldType)) ∈ wsG := xg_tab (xc3 (List.mem_of_getElem? (i := 70) rfl)) rfl
theorem kw_551 : (Jvm.Cond.methodLink "ContractLoaders$Machine" (59 : Nat) ({ cls := "ContractLoaders$Machine", name := "work", desc := "(LContractLoaders$Frame;)I" } : Jvm.MethodName)) ∈ wsG := xg_tab (xc3 (List.mem_of_getElem? (i := 71) rfl)) rfl
theorem kw_552 : (Jvm.Cond.privateMethod ({ cls := "ContractLoaders$Machine", name := "work", desc := "(LContractLoaders$Frame;)I" } : Jvm.MethodName)) ∈ tables_1 := xc3 (List.mem_of_getElem? (i := 72) rfl)
theorem kw_553 : (Jvm.Cond.instanceMethod ({ cls := "ContractLoaders$Machine", name := "work", desc := "(LContractLoaders$Frame;)I" } : Jvm.MethodName)) ∈ wsG := xg_tab (xc3 (List.mem_of_getElem? (i := 73) rfl)) rfl
theorem kw_554 : (Jvm.Cond.code ({ cls := "ContractLoaders$Machine", name := "work", desc := "(LContractLoaders$Frame;)I" } : Jvm.MethodName) prog_8_method_10_code (6 : Nat) (Option.some Jvm.ClassFile.FieldType.int)) ∈ wsG := xg_tab (xc3 (List.mem_of_getElem? (i := 74) rfl)) rfl
theorem kw_555 : (Jvm.Cond.methodLink "ContractLoaders$Machine" (144 : Nat) ({ cls := "ContractLoaders$Frame", name := "isAtEnd", desc := "()Z" } : Jvm.MethodName)) ∈ wsG := xg_tab (xc3 (List.mem_of_getElem? (i := 75) rfl)) rfl
theorem kw_556 : (Jvm.Cond.instanceMethod ({ cls := "ContractLoaders$Frame", name := "isAtEnd", desc := "()Z" } : Jvm.MethodName)) ∈ wsG := xg_tab (xc3 (List.mem_of_getElem? (i := 76) rfl)) rfl
theorem kw_557 : (Jvm.Cond.selects "ContractLoaders$Frame" ({ cls := "ContractLoaders$Frame", name := "isAtEnd", desc := "()Z" } : Jvm.MethodName) ({ cls := "ContractLoaders$Frame", name := "isAtEnd", desc := "()Z" } : Jvm.MethodName)) ∈ wsG := xg_tab (xc3 (List.mem_of_getElem? (i := 77) rfl)) rfl
theorem kw_558 : (Jvm.Cond.code ({ cls := "ContractLoaders$Frame", name := "isAtEnd", desc := "()Z" } : Jvm.MethodName) prog_4_method_3_code (1 : Nat) (Option.some Jvm.ClassFile.FieldType.boolean)) ∈ wsG := xg_tab (xc3 (List.mem_of_getElem? (i := 78) rfl)) rfl
theorem kw_559 : (Jvm.Cond.methodLink "ContractLoaders$Frame" (42 : Nat) ({ cls := "ContractLoaders$ClassFile", name := "actCount", desc := "(I)I" } : Jvm.MethodName)) ∈ wsG := xg_tab (xc3 (List.mem_of_getElem? (i := 79) rfl)) rfl
theorem kw_560 : (Jvm.Cond.methodLink "ContractLoaders$Machine" (141 : Nat) ({ cls := "ContractLoaders$Machine", name := "leave", desc := "()V" } : Jvm.MethodName)) ∈ wsG := xg_tab (xc3 (List.mem_of_getElem? (i := 80) rfl)) rfl
theorem kw_561 : (Jvm.Cond.privateMethod ({ cls := "ContractLoaders$Machine", name := "leave", desc := "()V" } : Jvm.MethodName)) ∈ tables_1 := xc3 (List.mem_of_getElem? (i := 81) rfl)
theorem kw_562 : (Jvm.Cond.instanceMethod ({ cls := "ContractLoaders$Machine", name := "leave", desc := "()V" } : Jvm.MethodName)) ∈ wsG := xg_tab (xc3 (List.mem_of_getElem? (i := 82) rfl)) rfl
theorem kw_563 : (Jvm.Cond.code ({ cls := "ContractLoaders$Machine", name := "leave", desc := "()V" } : Jvm.MethodName) prog_8_method_8_code (1 : Nat) (Option.none : Option Jvm.ClassFile.FieldType)) ∈ wsG := xg_tab (xc3 (List.mem_of_getElem? (i := 83) rfl)) rfl
theorem kw_564 : (Jvm.Cond.methodLink "ContractLoaders$Machine" (169 : Nat) ({ cls := "ContractLoaders$Machine", name := "workCall", desc := "(LContractLoaders$Frame;II)I" } : Jvm.MethodName)) ∈ wsG := xg_tab (xc3 (List.mem_of_getElem? (i := 84) rfl)) rfl
theorem kw_565 : (Jvm.Cond.privateMethod ({ cls := "ContractLoaders$Machine", name := "workCall", desc := "(LContractLoaders$Frame;II)I" } : Jvm.MethodName)) ∈ tables_1 := xc3 (List.mem_of_getElem? (i := 85) rfl)
theorem kw_566 : (Jvm.Cond.instanceMethod ({ cls := "ContractLoaders$Machine", name := "workCall", desc := "(LContractLoaders$Frame;II)I" } : Jvm.MethodName)) ∈ wsG := xg_tab (xc3 (List.mem_of_getElem? (i := 86) rfl)) rfl
theorem kw_567 : (Jvm.Cond.code ({ cls := "ContractLoaders$Machine", name := "workCall", desc := "(LContractLoaders$Frame;II)I" } : Jvm.MethodName) prog_8_method_12_code (7 : Nat) (Option.some Jvm.ClassFile.FieldType.int)) ∈ wsG := xg_tab (xc3 (List.mem_of_getElem? (i := 87) rfl)) rfl
theorem kw_568 : (Jvm.Cond.methodLink "ContractLoaders$Machine" (225 : Nat) ({ cls := "ContractLoaders$Machine", name := "contractAt", desc := "(I)LContractLoaders$Contract;" } : Jvm.MethodName)) ∈ wsG := xg_tab (xc3 (List.mem_of_getElem? (i := 88) rfl)) rfl
theorem kw_569 : (Jvm.Cond.methodLink "ContractLoaders$Machine" (230 : Nat) ({ cls := "ContractLoaders$Library", name := "foundFace", desc := "(LContractLoaders$Loader;I)LContractLoaders$LoadedClass;" } : Jvm.MethodName)) ∈ wsG := xg_tab (xc3 (List.mem_of_getElem? (i := 89) rfl)) rfl
theorem kw_570 : (Jvm.Cond.instanceMethod ({ cls := "ContractLoaders$Library", name := "foundFace", desc := "(LContractLoaders$Loader;I)LContractLoaders$LoadedClass;" } : Jvm.MethodName)) ∈ wsG := xg_tab (xc3 (List.mem_of_getElem? (i := 90) rfl)) rfl
theorem kw_571 : (Jvm.Cond.selects "ContractLoaders$Library" ({ cls := "ContractLoaders$Library", name := "foundFace", desc := "(LContractLoaders$Loader;I)LContractLoaders$LoadedClass;" } : Jvm.MethodName) ({ cls := "ContractLoaders$Library", name := "foundFace", desc := "(LContractLoaders$Loader;I)LContractLoaders$LoadedClass;" } : Jvm.MethodName)) ∈ wsG := xg_tab (xc3 (List.mem_of_getElem? (i := 91) rfl)) rfl
theorem kw_572 : (Jvm.Cond.code ({ cls := "ContractLoaders$Library", name := "foundFace", desc := "(LContractLoaders$Loader;I)LContractLoaders$LoadedClass;" } : Jvm.MethodName) prog_5_method_8_code (4 : Nat) (Option.some (Jvm.ClassFile.FieldType.object "ContractLoaders$LoadedClass"))) ∈ wsG := xg_tab (xc3 (List.mem_of_getElem? (i := 92) rfl)) rfl
theorem kw_573 : (Jvm.Cond.methodLink "ContractLoaders$Machine" (234 : Nat) ({ cls := "ContractLoaders$LoadedClass", name := "isBelow", desc := "(LContractLoaders$LoadedClass;)Z" } : Jvm.MethodName)) ∈ wsG := xg_tab (xc3 (List.mem_of_getElem? (i := 93) rfl)) rfl
theorem kw_574 : (Jvm.Cond.methodLink "ContractLoaders$Machine" (173 : Nat) ({ cls := "ContractLoaders$Machine", name := "workFind", desc := "(LContractLoaders$Frame;I)I" } : Jvm.MethodName)) ∈ wsG := xg_tab (xc3 (List.mem_of_getElem? (i := 94) rfl)) rfl
theorem kw_575 : (Jvm.Cond.privateMethod ({ cls := "ContractLoaders$Machine", name := "workFind", desc := "(LContractLoaders$Frame;I)I" } : Jvm.MethodName)) ∈ tables_1 := xc3 (List.mem_of_getElem? (i := 95) rfl)
theorem kw_576 : (Jvm.Cond.instanceMethod ({ cls := "ContractLoaders$Machine", name := "workFind", desc := "(LContractLoaders$Frame;I)I" } : Jvm.MethodName)) ∈ wsG := xg_tab (xc3 (List.mem_of_getElem? (i := 96) rfl)) rfl
theorem kw_577 : (Jvm.Cond.code ({ cls := "ContractLoaders$Machine", name := "workFind", desc := "(LContractLoaders$Frame;I)I" } : Jvm.MethodName) prog_8_method_13_code (4 : Nat) (Option.some Jvm.ClassFile.FieldType.int)) ∈ wsG := xg_tab (xc3 (List.mem_of_getElem? (i := 97) rfl)) rfl
theorem kw_578 : (Jvm.Cond.methodLink "ContractLoaders$Machine" (238 : Nat) ({ cls := "ContractLoaders$LoadedClass", name := "number", desc := "()I" } : Jvm.MethodName)) ∈ wsG := xg_tab (xc3 (List.mem_of_getElem? (i := 98) rfl)) rfl
theorem kw_579 : (Jvm.Cond.methodLink "ContractLoaders$Machine" (177 : Nat) ({ cls := "ContractLoaders$Machine", name := "workAs", desc := "(LContractLoaders$Frame;I)I" } : Jvm.MethodName)) ∈ wsG := xg_tab (xc3 (List.mem_of_getElem? (i := 99) rfl)) rfl
theorem kw_580 : (Jvm.Cond.privateMethod ({ cls := "ContractLoaders$Machine", name := "workAs", desc := "(LContractLoaders$Frame;I)I" } : Jvm.MethodName)) ∈ tables_1 := xc3 (List.mem_of_getElem? (i := 100) rfl)
theorem kw_581 : (Jvm.Cond.instanceMethod ({ cls := "ContractLoaders$Machine", name := "workAs", desc := "(LContractLoaders$Frame;I)I" } : Jvm.MethodName)) ∈ wsG := xg_tab (xc3 (List.mem_of_getElem? (i := 101) rfl)) rfl
theorem kw_582 : (Jvm.Cond.code ({ cls := "ContractLoaders$Machine", name := "workAs", desc := "(LContractLoaders$Frame;I)I" } : Jvm.MethodName) prog_8_method_14_code (4 : Nat) (Option.some Jvm.ClassFile.FieldType.int)) ∈ wsG := xg_tab (xc3 (List.mem_of_getElem? (i := 102) rfl)) rfl
theorem kw_583 : (Jvm.Cond.methodLink "ContractLoaders$Machine" (187 : Nat) ({ cls := "ContractLoaders$Machine", name := "workLetGo", desc := "(I)I" } : Jvm.MethodName)) ∈ wsG := xg_tab (xc3 (List.mem_of_getElem? (i := 103) rfl)) rfl
theorem kw_584 : (Jvm.Cond.privateMethod ({ cls := "ContractLoaders$Machine", name := "workLetGo", desc := "(I)I" } : Jvm.MethodName)) ∈ tables_1 := xc3 (List.mem_of_getElem? (i := 104) rfl)
theorem kw_585 : (Jvm.Cond.instanceMethod ({ cls := "ContractLoaders$Machine", name := "workLetGo", desc := "(I)I" } : Jvm.MethodName)) ∈ wsG := xg_tab (xc3 (List.mem_of_getElem? (i := 105) rfl)) rfl
theorem kw_586 : (Jvm.Cond.code ({ cls := "ContractLoaders$Machine", name := "workLetGo", desc := "(I)I" } : Jvm.MethodName) prog_8_method_15_code (4 : Nat) (Option.some Jvm.ClassFile.FieldType.int)) ∈ wsG := xg_tab (xc3 (List.mem_of_getElem? (i := 106) rfl)) rfl
theorem kw_587 : (Jvm.Cond.methodLink "ContractLoaders$Machine" (241 : Nat) ({ cls := "ContractLoaders$Library", name := "loaderAt", desc := "(I)LContractLoaders$Loader;" } : Jvm.MethodName)) ∈ wsG := xg_tab (xc3 (List.mem_of_getElem? (i := 107) rfl)) rfl
theorem kw_588 : (Jvm.Cond.methodLink "ContractLoaders$Machine" (245 : Nat) ({ cls := "ContractLoaders$Loader", name := "isBelow", desc := "(LContractLoaders$Loader;)Z" } : Jvm.MethodName)) ∈ wsG := xg_tab (xc3 (List.mem_of_getElem? (i := 108) rfl)) rfl
theorem kw_589 : (Jvm.Cond.methodLink "ContractLoaders$Machine" (250 : Nat) ({ cls := "ContractLoaders$Library", name := "letGo", desc := "(LContractLoaders$Loader;)I" } : Jvm.MethodName)) ∈ wsG := xg_tab (xc3 (List.mem_of_getElem? (i := 109) rfl)) rfl
theorem kw_590 : (Jvm.Cond.methodLink "ContractLoaders$Machine" (190 : Nat) ({ cls := "ContractLoaders$Machine", name := "workTry", desc := "(LContractLoaders$Frame;)I" } : Jvm.MethodName)) ∈ wsG := xg_tab (xc3 (List.mem_of_getElem? (i := 110) rfl)) rfl
theorem kw_591 : (Jvm.Cond.privateMethod ({ cls := "ContractLoaders$Machine", name := "workTry", desc := "(LContractLoaders$Frame;)I" } : Jvm.MethodName)) ∈ tables_1 := xc3 (List.mem_of_getElem? (i := 111) rfl)
theorem kw_592 : (Jvm.Cond.instanceMethod ({ cls := "ContractLoaders$Machine", name := "workTry", desc := "(LContractLoaders$Frame;)I" } : Jvm.MethodName)) ∈ wsG := xg_tab (xc3 (List.mem_of_getElem? (i := 112) rfl)) rfl
theorem kw_593 : (Jvm.Cond.code ({ cls := "ContractLoaders$Machine", name := "workTry", desc := "(LContractLoaders$Frame;)I" } : Jvm.MethodName) prog_8_method_16_code (2 : Nat) (Option.some Jvm.ClassFile.FieldType.int)) ∈ wsG := xg_tab (xc3 (List.mem_of_getElem? (i := 113) rfl)) rfl
theorem kw_594 : (Jvm.Cond.methodLink "ContractLoaders$Machine" (257 : Nat) ({ cls := "ContractLoaders$Frame", name := "keep", desc := "(LContractLoaders$Rows;)V" } : Jvm.MethodName)) ∈ wsG := xg_tab (xc3 (List.mem_of_getElem? (i := 114) rfl)) rfl
theorem kw_595 : (Jvm.Cond.instanceMethod ({ cls := "ContractLoaders$Frame", name := "keep", desc := "(LContractLoaders$Rows;)V" } : Jvm.MethodName)) ∈ wsG := xg_tab (xc3 (List.mem_of_getElem? (i := 115) rfl)) rfl
theorem kw_596 : (Jvm.Cond.selects "ContractLoaders$Frame" ({ cls := "ContractLoaders$Frame", name := "keep", desc := "(LContractLoaders$Rows;)V" } : Jvm.MethodName) ({ cls := "ContractLoaders$Frame", name := "keep", desc := "(LContractLoaders$Rows;)V" } : Jvm.MethodName)) ∈ wsG := xg_tab (xc3 (List.mem_of_getElem? (i := 116) rfl)) rfl
theorem kw_597 : (Jvm.Cond.code ({ cls := "ContractLoaders$Frame", name := "keep", desc := "(LContractLoaders$Rows;)V" } : Jvm.MethodName) prog_4_method_5_code (2 : Nat) (Option.none : Option Jvm.ClassFile.FieldType)) ∈ wsG := xg_tab (xc3 (List.mem_of_getElem? (i := 117) rfl)) rfl
theorem kw_598 : (Jvm.Cond.classLink "ContractLoaders$Frame" (52 : Nat) "ContractLoaders$Rows") ∈ wsG := xg_tab (xc3 (List.mem_of_getElem? (i := 118) rfl)) rfl
theorem kw_599 : (Jvm.Cond.methodLinkNest "ContractLoaders$Frame" (54 : Nat) ({ cls := "ContractLoaders$Rows", name := "<init>", desc := "()V" } : Jvm.MethodName) "ContractLoaders") ∈ tables_1 := xc3 (List.mem_of_getElem? (i := 119) rfl)
theorem kw_600 : (Jvm.Cond.methodLink "ContractLoaders$Frame" (55 : Nat) ({ cls := "ContractLoaders$Rows", name := "copyFrom", desc := "(LContractLoaders$Rows;)V" } : Jvm.MethodName)) ∈ wsG := xg_tab (xc3 (List.mem_of_getElem? (i := 120) rfl)) rfl
theorem kw_601 : (Jvm.Cond.methodLink "ContractLoaders$Machine" (193 : Nat) ({ cls := "ContractLoaders$Machine", name := "workOnRow", desc := "(LContractLoaders$Frame;III)I" } : Jvm.MethodName)) ∈ wsG := xg_tab (xc3 (List.mem_of_getElem? (i := 121) rfl)) rfl
theorem kw_602 : (Jvm.Cond.privateMethod ({ cls := "ContractLoaders$Machine", name := "workOnRow", desc := "(LContractLoaders$Frame;III)I" } : Jvm.MethodName)) ∈ tables_1 := xc3 (List.mem_of_getElem? (i := 122) rfl)
theorem kw_603 : (Jvm.Cond.instanceMethod ({ cls := "ContractLoaders$Machine", name := "workOnRow", desc := "(LContractLoaders$Frame;III)I" } : Jvm.MethodName)) ∈ wsG := xg_tab (xc3 (List.mem_of_getElem? (i := 123) rfl)) rfl
theorem kw_604 : (Jvm.Cond.code ({ cls := "ContractLoaders$Machine", name := "workOnRow", desc := "(LContractLoaders$Frame;III)I" } : Jvm.MethodName) prog_8_method_11_code (7 : Nat) (Option.some Jvm.ClassFile.FieldType.int)) ∈ wsG := xg_tab (xc3 (List.mem_of_getElem? (i := 124) rfl)) rfl
theorem kw_605 : (Jvm.Cond.methodLink "ContractLoaders$Machine" (201 : Nat) ({ cls := "ContractLoaders$Contract", name := "firstCell", desc := "()I" } : Jvm.MethodName)) ∈ wsG := xg_tab (xc3 (List.mem_of_getElem? (i := 125) rfl)) rfl
theorem kw_606 : (Jvm.Cond.methodLink "ContractLoaders$Machine" (205 : Nat) ({ cls := "ContractLoaders$Rows", name := "add", desc := "(III)V" } : Jvm.MethodName)) ∈ wsG := xg_tab (xc3 (List.mem_of_getElem? (i := 126) rfl)) rfl
theorem kw_607 : (Jvm.Cond.instanceMethod ({ cls := "ContractLoaders$Rows", name := "add", desc := "(III)V" } : Jvm.MethodName)) ∈ wsG := xg_tab (xc3 (List.mem_of_getElem? (i := 127) rfl)) rfl
theorem kw_608 : (Jvm.Cond.selects "ContractLoaders$Rows" ({ cls := "ContractLoaders$Rows", name := "add", desc := "(III)V" } : Jvm.MethodName) ({ cls := "ContractLoaders$Rows", name := "add", desc := "(III)V" } : Jvm.MethodName)) ∈ wsG := xg_tab (xc3 (List.mem_of_getElem? (i := 128) rfl)) rfl
theorem kw_609 : (Jvm.Cond.code ({ cls := "ContractLoaders$Rows", name := "add", desc := "(III)V" } : Jvm.MethodName) prog_9_method_4_code (4 : Nat) (Option.none : Option Jvm.ClassFile.FieldType)) ∈ wsG := xg_tab (xc3 (List.mem_of_getElem? (i := 129) rfl)) rfl
theorem kw_610 : (Jvm.Cond.methodLink "ContractLoaders$Rows" (25 : Nat) ({ cls := "ContractLoaders$Rows", name := "lowestBits", desc := "(IJ)J" } : Jvm.MethodName)) ∈ wsG := xg_tab (xc3 (List.mem_of_getElem? (i := 130) rfl)) rfl
theorem kw_611 : (Jvm.Cond.static ({ cls := "ContractLoaders$Rows", name := "lowestBits", desc := "(IJ)J" } : Jvm.MethodName)) ∈ wsG := xg_tab (xc3 (List.mem_of_getElem? (i := 131) rfl)) rfl
theorem kw_612 : (Jvm.Cond.code ({ cls := "ContractLoaders$Rows", name := "lowestBits", desc := "(IJ)J" } : Jvm.MethodName) prog_9_method_10_code (3 : Nat) (Option.some Jvm.ClassFile.FieldType.long)) ∈ wsG := xg_tab (xc3 (List.mem_of_getElem? (i := 132) rfl)) rfl
theorem kw_613 : (Jvm.Cond.methodLink "ContractLoaders$Machine" (209 : Nat) ({ cls := "ContractLoaders$Rows", name := "cut", desc := "(II)J" } : Jvm.MethodName)) ∈ wsG := xg_tab (xc3 (List.mem_of_getElem? (i := 133) rfl)) rfl
theorem kw_614 : (Jvm.Cond.instanceMethod ({ cls := "ContractLoaders$Rows", name := "cut", desc := "(II)J" } : Jvm.MethodName)) ∈ wsG := xg_tab (xc3 (List.mem_of_getElem? (i := 134) rfl)) rfl
theorem kw_615 : (Jvm.Cond.selects "ContractLoaders$Rows" ({ cls := "ContractLoaders$Rows", name := "cut", desc := "(II)J" } : Jvm.MethodName) ({ cls := "ContractLoaders$Rows", name := "cut", desc := "(II)J" } : Jvm.MethodName)) ∈ wsG := xg_tab (xc3 (List.mem_of_getElem? (i := 135) rfl)) rfl
theorem kw_616 : (Jvm.Cond.code ({ cls := "ContractLoaders$Rows", name := "cut", desc := "(II)J" } : Jvm.MethodName) prog_9_method_6_code (3 : Nat) (Option.some Jvm.ClassFile.FieldType.long)) ∈ wsG := xg_tab (xc3 (List.mem_of_getElem? (i := 136) rfl)) rfl
theorem kw_617 : (Jvm.Cond.methodLink "ContractLoaders$Machine" (213 : Nat) ({ cls := "ContractLoaders$Rows", name := "put", desc := "(IIJ)V" } : Jvm.MethodName)) ∈ wsG := xg_tab (xc3 (List.mem_of_getElem? (i := 137) rfl)) rfl
theorem kw_618 : (Jvm.Cond.instanceMethod ({ cls := "ContractLoaders$Rows", name := "put", desc := "(IIJ)V" } : Jvm.MethodName)) ∈ wsG := xg_tab (xc3 (List.mem_of_getElem? (i := 138) rfl)) rfl
theorem kw_619 : (Jvm.Cond.selects "ContractLoaders$Rows" ({ cls := "ContractLoaders$Rows", name := "put", desc := "(IIJ)V" } : Jvm.MethodName) ({ cls := "ContractLoaders$Rows", name := "put", desc := "(IIJ)V" } : Jvm.MethodName)) ∈ wsG := xg_tab (xc3 (List.mem_of_getElem? (i := 139) rfl)) rfl
theorem kw_620 : (Jvm.Cond.code ({ cls := "ContractLoaders$Rows", name := "put", desc := "(IIJ)V" } : Jvm.MethodName) prog_9_method_5_code (5 : Nat) (Option.none : Option Jvm.ClassFile.FieldType)) ∈ wsG := xg_tab (xc3 (List.mem_of_getElem? (i := 140) rfl)) rfl
theorem kw_621 : (Jvm.Cond.methodLink "ContractLoaders$Machine" (217 : Nat) ({ cls := "ContractLoaders$Rows", name := "refusesDivision", desc := "(II)Z" } : Jvm.MethodName)) ∈ wsG := xg_tab (xc3 (List.mem_of_getElem? (i := 141) rfl)) rfl
theorem kw_622 : (Jvm.Cond.instanceMethod ({ cls := "ContractLoaders$Rows", name := "refusesDivision", desc := "(II)Z" } : Jvm.MethodName)) ∈ wsG := xg_tab (xc3 (List.mem_of_getElem? (i := 142) rfl)) rfl
theorem kw_623 : (Jvm.Cond.selects "ContractLoaders$Rows" ({ cls := "ContractLoaders$Rows", name := "refusesDivision", desc := "(II)Z" } : Jvm.MethodName) ({ cls := "ContractLoaders$Rows", name := "refusesDivision", desc := "(II)Z" } : Jvm.MethodName)) ∈ wsG := xg_tab (xc3 (List.mem_of_getElem? (i := 143) rfl)) rfl
theorem kw_624 : (Jvm.Cond.code ({ cls := "ContractLoaders$Rows", name := "refusesDivision", desc := "(II)Z" } : Jvm.MethodName) prog_9_method_7_code (3 : Nat) (Option.some Jvm.ClassFile.FieldType.boolean)) ∈ wsG := xg_tab (xc3 (List.mem_of_getElem? (i := 144) rfl)) rfl
theorem kw_625 : (Jvm.Cond.methodLink "ContractLoaders$Machine" (221 : Nat) ({ cls := "ContractLoaders$Rows", name := "divided", desc := "(IIJ)J" } : Jvm.MethodName)) ∈ wsG := xg_tab (xc3 (List.mem_of_getElem? (i := 145) rfl)) rfl
theorem kw_626 : (Jvm.Cond.instanceMethod ({ cls := "ContractLoaders$Rows", name := "divided", desc := "(IIJ)J" } : Jvm.MethodName)) ∈ wsG := xg_tab (xc3 (List.mem_of_getElem? (i := 146) rfl)) rfl
theorem kw_627 : (Jvm.Cond.selects "ContractLoaders$Rows" ({ cls := "ContractLoaders$Rows", name := "divided", desc := "(IIJ)J" } : Jvm.MethodName) ({ cls := "ContractLoaders$Rows", name := "divided", desc := "(IIJ)J" } : Jvm.MethodName)) ∈ wsG := xg_tab (xc3 (List.mem_of_getElem? (i := 147) rfl)) rfl
theorem kw_628 : (Jvm.Cond.code ({ cls := "ContractLoaders$Rows", name := "divided", desc := "(IIJ)J" } : Jvm.MethodName) prog_9_method_8_code (5 : Nat) (Option.some Jvm.ClassFile.FieldType.long)) ∈ wsG := xg_tab (xc3 (List.mem_of_getElem? (i := 148) rfl)) rfl
theorem kw_629 : (Jvm.Cond.constantLong "ContractLoaders$Rows" (29 : Nat) (9223372036854775807 : Int64)) ∈ wsG := xg_tab (xc3 (List.mem_of_getElem? (i := 149) rfl)) rfl
theorem kw_630 : (Jvm.Cond.constantLong "ContractLoaders$Rows" (31 : Nat) (-9223372036854775808 : Int64)) ∈ wsG := xg_tab (xc3 (List.mem_of_getElem? (i := 150) rfl)) rfl
theorem kw_631 : (Jvm.Cond.methodLink "ContractLoaders$Machine" (63 : Nat) ({ cls := "ContractLoaders$Machine", name := "isHeldByTry", desc := "(I)Z" } : Jvm.MethodName)) ∈ wsG := xg_tab (xc3 (List.mem_of_getElem? (i := 151) rfl)) rfl
theorem kw_632 : (Jvm.Cond.privateMethod ({ cls := "ContractLoaders$Machine", name := "isHeldByTry", desc := "(I)Z" } : Jvm.MethodName)) ∈ tables_1 := xc3 (List.mem_of_getElem? (i := 152) rfl)
theorem kw_633 : (Jvm.Cond.instanceMethod ({ cls := "ContractLoaders$Machine", name := "isHeldByTry", desc := "(I)Z" } : Jvm.MethodName)) ∈ wsG := xg_tab (xc3 (List.mem_of_getElem? (i := 153) rfl)) rfl
theorem kw_634 : (Jvm.Cond.code ({ cls := "ContractLoaders$Machine", name := "isHeldByTry", desc := "(I)Z" } : Jvm.MethodName) prog_8_method_9_code (4 : Nat) (Option.some Jvm.ClassFile.FieldType.boolean)) ∈ wsG := xg_tab (xc3 (List.mem_of_getElem? (i := 154) rfl)) rfl
theorem kw_635 : (Jvm.Cond.methodLink "ContractLoaders$Machine" (134 : Nat) ({ cls := "ContractLoaders$Frame", name := "isTrying", desc := "()Z" } : Jvm.MethodName)) ∈ wsG := xg_tab (xc3 (List.mem_of_getElem? (i := 155) rfl)) rfl
theorem kw_636 : (Jvm.Cond.instanceMethod ({ cls := "ContractLoaders$Frame", name := "isTrying", desc := "()Z" } : Jvm.MethodName)) ∈ wsG := xg_tab (xc3 (List.mem_of_getElem? (i := 156) rfl)) rfl
theorem kw_637 : (Jvm.Cond.selects "ContractLoaders$Frame" ({ cls := "ContractLoaders$Frame", name := "isTrying", desc := "()Z" } : Jvm.MethodName) ({ cls := "ContractLoaders$Frame", name := "isTrying", desc := "()Z" } : Jvm.MethodName)) ∈ wsG := xg_tab (xc3 (List.mem_of_getElem? (i := 157) rfl)) rfl
theorem kw_638 : (Jvm.Cond.code ({ cls := "ContractLoaders$Frame", name := "isTrying", desc := "()Z" } : Jvm.MethodName) prog_4_method_4_code (1 : Nat) (Option.some Jvm.ClassFile.FieldType.boolean)) ∈ wsG := xg_tab (xc3 (List.mem_of_getElem? (i := 158) rfl)) rfl
theorem kw_639 : (Jvm.Cond.methodLink "ContractLoadersLaw" (80 : Nat) ({ cls := "ContractLoaders", name := "value", desc := "()J" } : Jvm.MethodName)) ∈ wsG := xg_tab (xc3 (List.mem_of_getElem? (i := 159) rfl)) rfl
theorem kw_640 : (Jvm.Cond.instanceMethod ({ cls := "ContractLoaders", name := "value", desc := "()J" } : Jvm.MethodName)) ∈ wsG := xg_tab (xc3 (List.mem_of_getElem? (i := 160) rfl)) rfl
theorem kw_641 : (Jvm.Cond.selects "ContractLoaders" ({ cls := "ContractLoaders", name := "value", desc := "()J" } : Jvm.MethodName) ({ cls := "ContractLoaders", name := "value", desc := "()J" } : Jvm.MethodName)) ∈ wsG := xg_tab (xc3 (List.mem_of_getElem? (i := 161) rfl)) rfl
theorem kw_642 : (Jvm.Cond.code ({ cls := "ContractLoaders", name := "value", desc := "()J" } : Jvm.MethodName) prog_1_method_15_code (1 : Nat) (Option.some Jvm.ClassFile.FieldType.long)) ∈ wsG := xg_tab (xc3 (List.mem_of_getElem? (i := 162) rfl)) rfl
theorem kw_643 : (Jvm.Cond.methodLink "ContractLoadersLaw" (95 : Nat) ({ cls := "ContractLoaders", name := "told", desc := "(II)I" } : Jvm.MethodName)) ∈ wsG := xg_tab (xc3 (List.mem_of_getElem? (i := 163) rfl)) rfl
theorem kw_644 : (Jvm.Cond.instanceMethod ({ cls := "ContractLoaders", name := "told", desc := "(II)I" } : Jvm.MethodName)) ∈ wsG := xg_tab (xc3 (List.mem_of_getElem? (i := 164) rfl)) rfl
theorem kw_645 : (Jvm.Cond.selects "ContractLoaders" ({ cls := "ContractLoaders", name := "told", desc := "(II)I" } : Jvm.MethodName) ({ cls := "ContractLoaders", name := "told", desc := "(II)I" } : Jvm.MethodName)) ∈ wsG := xg_tab (xc3 (List.mem_of_getElem? (i := 165) rfl)) rfl
theorem kw_646 : (Jvm.Cond.code ({ cls := "ContractLoaders", name := "told", desc := "(II)I" } : Jvm.MethodName) prog_1_method_17_code (4 : Nat) (Option.some Jvm.ClassFile.FieldType.int)) ∈ wsG := xg_tab (xc3 (List.mem_of_getElem? (i := 166) rfl)) rfl
theorem kw_647 : (Jvm.Cond.methodLink "ContractLoaders" (186 : Nat) ({ cls := "ContractLoaders", name := "toldOfContract", desc := "(LContractLoaders$Contract;I)I" } : Jvm.MethodName)) ∈ wsG := xg_tab (xc3 (List.mem_of_getElem? (i := 167) rfl)) rfl
theorem kw_648 : (Jvm.Cond.static ({ cls := "ContractLoaders", name := "toldOfContract", desc := "(LContractLoaders$Contract;I)I" } : Jvm.MethodName)) ∈ wsG := xg_tab (xc3 (List.mem_of_getElem? (i := 168) rfl)) rfl
theorem kw_649 : (Jvm.Cond.code ({ cls := "ContractLoaders", name := "toldOfContract", desc := "(LContractLoaders$Contract;I)I" } : Jvm.MethodName) prog_1_method_20_code (2 : Nat) (Option.some Jvm.ClassFile.FieldType.int)) ∈ wsG := xg_tab (xc3 (List.mem_of_getElem? (i := 169) rfl)) rfl
theorem kw_650 : (Jvm.Cond.methodLink "ContractLoaders" (190 : Nat) ({ cls := "ContractLoaders", name := "toldOfLoader", desc := "(LContractLoaders$Loader;I)I" } : Jvm.MethodName)) ∈ wsG := xg_tab (xc3 (List.mem_of_getElem? (i := 170) rfl)) rfl
theorem kw_651 : (Jvm.Cond.static ({ cls := "ContractLoaders", name := "toldOfLoader", desc := "(LContractLoaders$Loader;I)I" } : Jvm.MethodName)) ∈ wsG := xg_tab (xc3 (List.mem_of_getElem? (i := 171) rfl)) rfl
theorem kw_652 : (Jvm.Cond.code ({ cls := "ContractLoaders", name := "toldOfLoader", desc := "(LContractLoaders$Loader;I)I" } : Jvm.MethodName) prog_1_method_21_code (2 : Nat) (Option.some Jvm.ClassFile.FieldType.int)) ∈ wsG := xg_tab (xc3 (List.mem_of_getElem? (i := 172) rfl)) rfl
theorem kw_653 : (Jvm.Cond.methodLink "ContractLoadersLaw" (99 : Nat) ({ cls := "ContractLoaders", name := "count", desc := "(I)I" } : Jvm.MethodName)) ∈ wsG := xg_tab (xc3 (List.mem_of_getElem? (i := 173) rfl)) rfl
theorem kw_654 : (Jvm.Cond.instanceMethod ({ cls := "ContractLoaders", name := "count", desc := "(I)I" } : Jvm.MethodName)) ∈ wsG := xg_tab (xc3 (List.mem_of_getElem? (i := 174) rfl)) rfl
theorem kw_655 : (Jvm.Cond.selects "ContractLoaders" ({ cls := "ContractLoaders", name := "count", desc := "(I)I" } : Jvm.MethodName) ({ cls := "ContractLoaders", name := "count", desc := "(I)I" } : Jvm.MethodName)) ∈ wsG := xg_tab (xc3 (List.mem_of_getElem? (i := 175) rfl)) rfl
theorem kw_656 : (Jvm.Cond.code ({ cls := "ContractLoaders", name := "count", desc := "(I)I" } : Jvm.MethodName) prog_1_method_18_code (2 : Nat) (Option.some Jvm.ClassFile.FieldType.int)) ∈ wsG := xg_tab (xc3 (List.mem_of_getElem? (i := 176) rfl)) rfl
theorem kw_657 : (Jvm.Cond.methodLink "ContractLoaders" (194 : Nat) ({ cls := "ContractLoaders$Library", name := "classesThere", desc := "()I" } : Jvm.MethodName)) ∈ wsG := xg_tab (xc3 (List.mem_of_getElem? (i := 177) rfl)) rfl
theorem kw_658 : (Jvm.Cond.instanceMethod ({ cls := "ContractLoaders$Library", name := "classesThere", desc := "()I" } : Jvm.MethodName)) ∈ wsG := xg_tab (xc3 (List.mem_of_getElem? (i := 178) rfl)) rfl
theorem kw_659 : (Jvm.Cond.selects "ContractLoaders$Library" ({ cls := "ContractLoaders$Library", name := "classesThere", desc := "()I" } : Jvm.MethodName) ({ cls := "ContractLoaders$Library", name := "classesThere", desc := "()I" } : Jvm.MethodName)) ∈ wsG := xg_tab (xc3 (List.mem_of_getElem? (i := 179) rfl)) rfl
theorem kw_660 : (Jvm.Cond.code ({ cls := "ContractLoaders$Library", name := "classesThere", desc := "()I" } : Jvm.MethodName) prog_5_method_6_code (3 : Nat) (Option.some Jvm.ClassFile.FieldType.int)) ∈ wsG := xg_tab (xc3 (List.mem_of_getElem? (i := 180) rfl)) rfl
theorem kw_661 : (Jvm.Cond.methodLink "ContractLoadersLaw" (85 : Nat) ({ cls := "ContractLoadersLaw", name := "place", desc := "(LContractLoaders;II[J)I" } : Jvm.MethodName)) ∈ wsG := xg_tab (xc3 (List.mem_of_getElem? (i := 181) rfl)) rfl
theorem kw_662 : (Jvm.Cond.static ({ cls := "ContractLoadersLaw", name := "place", desc := "(LContractLoaders;II[J)I" } : Jvm.MethodName)) ∈ wsG := xg_tab (xc3 (List.mem_of_getElem? (i := 182) rfl)) rfl
theorem kw_663 : (Jvm.Cond.codeWith ({ cls := "ContractLoadersLaw", name := "place", desc := "(LContractLoaders;II[J)I" } : Jvm.MethodName) method_3_code (5 : Nat) (Option.some Jvm.ClassFile.FieldType.int) [((0 : Nat), (9 : Nat), (12 : Nat), (13 : Nat))]) ∈ tables_1 := xc3 (List.mem_of_getElem? (i := 183) rfl)
theorem kw_664 : (Jvm.Cond.classLink "ContractLoadersLaw" (13 : Nat) "java/lang/IllegalArgumentException") ∈ wsG := xg_tab (xc3 (List.mem_of_getElem? (i := 184) rfl)) rfl
theorem kw_665 : (Jvm.Cond.methodLink "ContractLoadersLaw" (7 : Nat) ({ cls := "ContractLoaders", name := "place", desc := "(II)J" } : Jvm.MethodName)) ∈ wsG := xg_tab (xc3 (List.mem_of_getElem? (i := 185) rfl)) rfl
theorem kw_666 : (Jvm.Cond.instanceMethod ({ cls := "ContractLoaders", name := "place", desc := "(II)J" } : Jvm.MethodName)) ∈ wsG := xg_tab (xc3 (List.mem_of_getElem? (i := 186) rfl)) rfl
theorem kw_667 : (Jvm.Cond.selects "ContractLoaders" ({ cls := "ContractLoaders", name := "place", desc := "(II)J" } : Jvm.MethodName) ({ cls := "ContractLoaders", name := "place", desc := "(II)J" } : Jvm.MethodName)) ∈ wsG := xg_tab (xc3 (List.mem_of_getElem? (i := 187) rfl)) rfl
theorem kw_668 : (Jvm.Cond.code ({ cls := "ContractLoaders", name := "place", desc := "(II)J" } : Jvm.MethodName) prog_1_method_16_code (4 : Nat) (Option.some Jvm.ClassFile.FieldType.long)) ∈ wsG := xg_tab (xc3 (List.mem_of_getElem? (i := 188) rfl)) rfl
theorem kw_669 : (Jvm.Cond.classLink "ContractLoaders" (175 : Nat) "java/lang/IllegalArgumentException") ∈ wsG := xg_tab (xc3 (List.mem_of_getElem? (i := 189) rfl)) rfl
theorem kw_670 : (Jvm.Cond.instantiable "java/lang/IllegalArgumentException" (6 : Nat)) ∈ wsG := xg_tab (xc3 (List.mem_of_getElem? (i := 190) rfl)) rfl
theorem kw_671 : (Jvm.Cond.castable "java/lang/IllegalArgumentException" "java/lang/IllegalArgumentException") ∈ tables_1 := xc3 (List.mem_of_getElem? (i := 191) rfl)
theorem kw_672 : (Jvm.Cond.declares ({ cls := "java/lang/RuntimeException", name := "<init>", desc := "()V" } : Jvm.MethodName)) ∈ tables_1 := xc3 (List.mem_of_getElem? (i := 192) rfl)
theorem kw_673 : (Jvm.Cond.declares ({ cls := "java/lang/RuntimeException", name := "<init>", desc := "(Ljava/lang/String;)V" } : Jvm.MethodName)) ∈ tables_1 := xc3 (List.mem_of_getElem? (i := 193) rfl)
theorem kw_674 : (Jvm.Cond.declares ({ cls := "java/lang/Exception", name := "<init>", desc := "()V" } : Jvm.MethodName)) ∈ tables_1 := xc3 (List.mem_of_getElem? (i := 194) rfl)
theorem kw_675 : (Jvm.Cond.declares ({ cls := "java/lang/Exception", name := "<init>", desc := "(Ljava/lang/String;)V" } : Jvm.MethodName)) ∈ tables_1 := xc3 (List.mem_of_getElem? (i := 195) rfl)
theorem kw_676 : (Jvm.Cond.declares ({ cls := "java/lang/Throwable", name := "<init>", desc := "()V" } : Jvm.MethodName)) ∈ tables_1 := xc3 (List.mem_of_getElem? (i := 196) rfl)
theorem kw_677 : (Jvm.Cond.declares ({ cls := "java/lang/Throwable", name := "<init>", desc := "(Ljava/lang/String;)V" } : Jvm.MethodName)) ∈ tables_1 := xc3 (List.mem_of_getElem? (i := 197) rfl)
theorem kw_678 : (Jvm.Cond.selects "java/lang/IllegalArgumentException" ({ cls := "java/lang/Throwable", name := "fillInStackTrace", desc := "(I)Ljava/lang/Throwable;" } : Jvm.MethodName) ({ cls := "java/lang/Throwable", name := "fillInStackTrace", desc := "(I)Ljava/lang/Throwable;" } : Jvm.MethodName)) ∈ wsG := xg_tab (xc3 (List.mem_of_getElem? (i := 198) rfl)) rfl
theorem kw_679 : (Jvm.Cond.selects "java/lang/IllegalArgumentException" ({ cls := "java/lang/Throwable", name := "fillInStackTrace", desc := "()Ljava/lang/Throwable;" } : Jvm.MethodName) ({ cls := "java/lang/Throwable", name := "fillInStackTrace", desc := "()Ljava/lang/Throwable;" } : Jvm.MethodName)) ∈ wsG := xg_tab (xc3 (List.mem_of_getElem? (i := 199) rfl)) rfl
theorem kw_680 : (Jvm.Cond.lays "java/lang/IllegalArgumentException" "java/lang/Throwable" "cause" "Ljava/lang/Throwable;") ∈ wsG := xg_tab (xc3 (List.mem_of_getElem? (i := 200) rfl)) rfl
theorem kw_681 : (Jvm.Cond.lays "java/lang/Throwable" "java/lang/Throwable" "cause" "Ljava/lang/Throwable;") ∈ wsG := xg_tab (xc3 (List.mem_of_getElem? (i := 201) rfl)) rfl
theorem kw_682 : (Jvm.Cond.lays "java/lang/IllegalArgumentException" "java/lang/Throwable" "stackTrace" "[Ljava/lang/StackTraceElement;") ∈ wsG := xg_tab (xc3 (List.mem_of_getElem? (i := 202) rfl)) rfl
theorem kw_683 : (Jvm.Cond.lays "java/lang/Throwable" "java/lang/Throwable" "stackTrace" "[Ljava/lang/StackTraceElement;") ∈ wsG := xg_tab (xc3 (List.mem_of_getElem? (i := 203) rfl)) rfl
theorem kw_684 : (Jvm.Cond.lays "java/lang/IllegalArgumentException" "java/lang/Throwable" "suppressedExceptions" "Ljava/util/List;") ∈ wsG := xg_tab (xc3 (List.mem_of_getElem? (i := 204) rfl)) rfl
theorem kw_685 : (Jvm.Cond.lays "java/lang/Throwable" "java/lang/Throwable" "suppressedExceptions" "Ljava/util/List;") ∈ wsG := xg_tab (xc3 (List.mem_of_getElem? (i := 205) rfl)) rfl
theorem kw_686 : (Jvm.Cond.lays "java/lang/IllegalArgumentException" "java/lang/Throwable" "detailMessage" "Ljava/lang/String;") ∈ wsG := xg_tab (xc3 (List.mem_of_getElem? (i := 206) rfl)) rfl
theorem kw_687 : (Jvm.Cond.lays "java/lang/Throwable" "java/lang/Throwable" "detailMessage" "Ljava/lang/String;") ∈ wsG := xg_tab (xc3 (List.mem_of_getElem? (i := 207) rfl)) rfl
theorem kw_688 : (Jvm.Cond.lays "java/lang/IllegalArgumentException" "java/lang/Throwable" "backtrace" "Ljava/lang/Object;") ∈ wsG := xg_tab (xc3 (List.mem_of_getElem? (i := 208) rfl)) rfl
theorem kw_689 : (Jvm.Cond.lays "java/lang/Throwable" "java/lang/Throwable" "backtrace" "Ljava/lang/Object;") ∈ wsG := xg_tab (xc3 (List.mem_of_getElem? (i := 209) rfl)) rfl
theorem kw_690 : (Jvm.Cond.fieldLink "java/lang/Throwable" (198 : Nat) "java/lang/Throwable" "backtrace" "Ljava/lang/Object;") ∈ wsG := xg_tab (xc3 (List.mem_of_getElem? (i := 210) rfl)) rfl
theorem kw_691 : (Jvm.Cond.superclass "java/lang/Throwable" "java/lang/Object") ∈ tables_1 := xc3 (List.mem_of_getElem? (i := 211) rfl)
theorem kw_692 : (Jvm.Cond.instanceMethod ({ cls := "java/lang/Throwable", name := "<init>", desc := "()V" } : Jvm.MethodName)) ∈ wsG := xg_tab (xc3 (List.mem_of_getElem? (i := 212) rfl)) rfl
theorem kw_693 : (Jvm.Cond.code ({ cls := "java/lang/Throwable", name := "<init>", desc := "()V" } : Jvm.MethodName) prog_19_method_1_code (1 : Nat) (Option.none : Option Jvm.ClassFile.FieldType)) ∈ wsG := xg_tab (xc3 (List.mem_of_getElem? (i := 213) rfl)) rfl
theorem kw_694 : (Jvm.Cond.methodLink "java/lang/Throwable" (1 : Nat) ({ cls := "java/lang/Object", name := "<init>", desc := "()V" } : Jvm.MethodName)) ∈ wsG := xg_tab (xc3 (List.mem_of_getElem? (i := 214) rfl)) rfl
theorem kw_695 : (Jvm.Cond.fieldLink "java/lang/Throwable" (13 : Nat) "java/lang/Throwable" "UNASSIGNED_STACK" "[Ljava/lang/StackTraceElement;") ∈ wsG := xg_tab (xc3 (List.mem_of_getElem? (i := 215) rfl)) rfl
theorem kw_696 : (Jvm.Cond.laysStatic "java/lang/Throwable" "UNASSIGNED_STACK" "[Ljava/lang/StackTraceElement;") ∈ tables_1 := xc3 (List.mem_of_getElem? (i := 216) rfl)
theorem kw_697 : (Jvm.Cond.fieldLink "java/lang/Throwable" (20 : Nat) "java/lang/Throwable" "SUPPRESSED_SENTINEL" "Ljava/util/List;") ∈ wsG := xg_tab (xc3 (List.mem_of_getElem? (i := 217) rfl)) rfl
theorem kw_698 : (Jvm.Cond.laysStatic "java/lang/Throwable" "SUPPRESSED_SENTINEL" "Ljava/util/List;") ∈ tables_1 := xc3 (List.mem_of_getElem? (i := 218) rfl)
theorem kw_699 : (Jvm.Cond.methodLink "java/lang/Throwable" (27 : Nat) ({ cls := "java/lang/Throwable", name := "fillInStackTrace", desc := "()Ljava/lang/Throwable;" } : Jvm.MethodName)) ∈ wsG := xg_tab (xc3 (List.mem_of_getElem? (i := 219) rfl)) rfl
theorem kw_700 : (Jvm.Cond.instanceMethod ({ cls := "java/lang/Throwable", name := "fillInStackTrace", desc := "()Ljava/lang/Throwable;" } : Jvm.MethodName)) ∈ wsG := xg_tab (xc3 (List.mem_of_getElem? (i := 220) rfl)) rfl
theorem kw_701 : (Jvm.Cond.sameMethod "java/lang/Throwable" "java/lang/Throwable" "fillInStackTrace" "()Ljava/lang/Throwable;") ∈ tables_1 := xc3 (List.mem_of_getElem? (i := 221) rfl)
theorem kw_702 : (Jvm.Cond.codeSync ({ cls := "java/lang/Throwable", name := "fillInStackTrace", desc := "()Ljava/lang/Throwable;" } : Jvm.MethodName) prog_19_method_18_code (1 : Nat) (Option.some (Jvm.ClassFile.FieldType.object "java/lang/Throwable"))) ∈ tables_1 := xc3 (List.mem_of_getElem? (i := 222) rfl)
theorem kw_703 : (Jvm.Cond.methodLink "java/lang/Throwable" (202 : Nat) ({ cls := "java/lang/Throwable", name := "fillInStackTrace", desc := "(I)Ljava/lang/Throwable;" } : Jvm.MethodName)) ∈ wsG := xg_tab (xc3 (List.mem_of_getElem? (i := 223) rfl)) rfl
theorem kw_704 : (Jvm.Cond.privateMethod ({ cls := "java/lang/Throwable", name := "fillInStackTrace", desc := "(I)Ljava/lang/Throwable;" } : Jvm.MethodName)) ∈ tables_1 := xc3 (List.mem_of_getElem? (i := 224) rfl)
theorem kw_705 : (Jvm.Cond.instanceMethod ({ cls := "java/lang/Throwable", name := "fillInStackTrace", desc := "(I)Ljava/lang/Throwable;" } : Jvm.MethodName)) ∈ wsG := xg_tab (xc3 (List.mem_of_getElem? (i := 225) rfl)) rfl
theorem kw_706 : (Jvm.Cond.instantiable "java/lang/Throwable" (6 : Nat)) ∈ wsG := xg_tab (xc3 (List.mem_of_getElem? (i := 226) rfl)) rfl
theorem kw_707 : (Jvm.Cond.native ({ cls := "java/lang/Throwable", name := "fillInStackTrace", desc := "(I)Ljava/lang/Throwable;" } : Jvm.MethodName)) ∈ wsG := xg_tab (xc3 (List.mem_of_getElem? (i := 227) rfl)) rfl
theorem kw_708 : (Jvm.Cond.stringRef "ContractLoaders" (177 : Nat) "there is no such place") ∈ tables_1 := xc3 (List.mem_of_getElem? (i := 228) rfl)
theorem kw_709 : (Jvm.Cond.methodLink "ContractLoaders" (179 : Nat) ({ cls := "java/lang/IllegalArgumentException", name := "<init>", desc := "(Ljava/lang/String;)V" } : Jvm.MethodName)) ∈ wsG := xg_tab (xc3 (List.mem_of_getElem? (i := 229) rfl)) rfl
theorem kw_710 : (Jvm.Cond.instanceMethod ({ cls := "java/lang/IllegalArgumentException", name := "<init>", desc := "(Ljava/lang/String;)V" } : Jvm.MethodName)) ∈ wsG := xg_tab (xc3 (List.mem_of_getElem? (i := 230) rfl)) rfl
theorem kw_711 : (Jvm.Cond.code ({ cls := "java/lang/IllegalArgumentException", name := "<init>", desc := "(Ljava/lang/String;)V" } : Jvm.MethodName) prog_14_method_2_code (2 : Nat) (Option.none : Option Jvm.ClassFile.FieldType)) ∈ wsG := xg_tab (xc3 (List.mem_of_getElem? (i := 231) rfl)) rfl
theorem kw_712 : (Jvm.Cond.methodLink "java/lang/IllegalArgumentException" (7 : Nat) ({ cls := "java/lang/RuntimeException", name := "<init>", desc := "(Ljava/lang/String;)V" } : Jvm.MethodName)) ∈ wsG := xg_tab (xc3 (List.mem_of_getElem? (i := 232) rfl)) rfl
theorem kw_713 : (Jvm.Cond.instanceMethod ({ cls := "java/lang/RuntimeException", name := "<init>", desc := "(Ljava/lang/String;)V" } : Jvm.MethodName)) ∈ wsG := xg_tab (xc3 (List.mem_of_getElem? (i := 233) rfl)) rfl
theorem kw_714 : (Jvm.Cond.code ({ cls := "java/lang/RuntimeException", name := "<init>", desc := "(Ljava/lang/String;)V" } : Jvm.MethodName) prog_16_method_2_code (2 : Nat) (Option.none : Option Jvm.ClassFile.FieldType)) ∈ wsG := xg_tab (xc3 (List.mem_of_getElem? (i := 234) rfl)) rfl
theorem kw_715 : (Jvm.Cond.methodLink "java/lang/RuntimeException" (7 : Nat) ({ cls := "java/lang/Exception", name := "<init>", desc := "(Ljava/lang/String;)V" } : Jvm.MethodName)) ∈ wsG := xg_tab (xc3 (List.mem_of_getElem? (i := 235) rfl)) rfl
theorem kw_716 : (Jvm.Cond.instanceMethod ({ cls := "java/lang/Exception", name := "<init>", desc := "(Ljava/lang/String;)V" } : Jvm.MethodName)) ∈ wsG := xg_tab (xc3 (List.mem_of_getElem? (i := 236) rfl)) rfl
theorem kw_717 : (Jvm.Cond.code ({ cls := "java/lang/Exception", name := "<init>", desc := "(Ljava/lang/String;)V" } : Jvm.MethodName) prog_13_method_2_code (2 : Nat) (Option.none : Option Jvm.ClassFile.FieldType)) ∈ wsG := xg_tab (xc3 (List.mem_of_getElem? (i := 237) rfl)) rfl
theorem kw_718 : (Jvm.Cond.methodLink "java/lang/Exception" (7 : Nat) ({ cls := "java/lang/Throwable", name := "<init>", desc := "(Ljava/lang/String;)V" } : Jvm.MethodName)) ∈ wsG := xg_tab (xc3 (List.mem_of_getElem? (i := 238) rfl)) rfl
theorem kw_719 : (Jvm.Cond.instanceMethod ({ cls := "java/lang/Throwable", name := "<init>", desc := "(Ljava/lang/String;)V" } : Jvm.MethodName)) ∈ wsG := xg_tab (xc3 (List.mem_of_getElem? (i := 239) rfl)) rfl
theorem kw_720 : (Jvm.Cond.code ({ cls := "java/lang/Throwable", name := "<init>", desc := "(Ljava/lang/String;)V" } : Jvm.MethodName) prog_19_method_2_code (2 : Nat) (Option.none : Option Jvm.ClassFile.FieldType)) ∈ wsG := xg_tab (xc4 (List.mem_of_getElem? (i := 0) rfl)) rfl
theorem kw_721 : (Jvm.Cond.fieldLink "java/lang/Throwable" (198 : Nat) "java/lang/Throwable" "backtrace" "Ljava/lang/Object;") ∈ wsG := xg_tab (xc4 (List.mem_of_getElem? (i := 1) rfl)) rfl
theorem kw_722 : (Jvm.Cond.fieldLink "java/lang/Throwable" (31 : Nat) "java/lang/Throwable" "detailMessage" "Ljava/lang/String;") ∈ wsG := xg_tab (xc4 (List.mem_of_getElem? (i := 2) rfl)) rfl
theorem kw_723 : (Jvm.Cond.fieldLink "java/lang/Throwable" (7 : Nat) "java/lang/Throwable" "cause" "Ljava/lang/Throwable;") ∈ wsG := xg_tab (xc4 (List.mem_of_getElem? (i := 3) rfl)) rfl
theorem kw_724 : (Jvm.Cond.fieldLink "java/lang/Throwable" (17 : Nat) "java/lang/Throwable" "stackTrace" "[Ljava/lang/StackTraceElement;") ∈ wsG := xg_tab (xc4 (List.mem_of_getElem? (i := 4) rfl)) rfl
theorem kw_725 : (Jvm.Cond.fieldLink "java/lang/Throwable" (24 : Nat) "java/lang/Throwable" "suppressedExceptions" "Ljava/util/List;") ∈ wsG := xg_tab (xc4 (List.mem_of_getElem? (i := 5) rfl)) rfl
theorem kw_726 : (Jvm.Cond.soleField "java/lang/Throwable" "backtrace") ∈ tables_1 := xc4 (List.mem_of_getElem? (i := 6) rfl)
theorem kw_727 : (Jvm.Cond.soleField "java/lang/Throwable" "detailMessage") ∈ tables_1 := xc4 (List.mem_of_getElem? (i := 7) rfl)
theorem kw_728 : (Jvm.Cond.soleField "java/lang/Throwable" "cause") ∈ tables_1 := xc4 (List.mem_of_getElem? (i := 8) rfl)
theorem kw_729 : (Jvm.Cond.soleField "java/lang/Throwable" "stackTrace") ∈ tables_1 := xc4 (List.mem_of_getElem? (i := 9) rfl)
theorem kw_730 : (Jvm.Cond.lays "java/lang/IllegalArgumentException" "java/lang/Throwable" "depth" "I") ∈ wsG := xg_tab (xc4 (List.mem_of_getElem? (i := 10) rfl)) rfl
theorem kw_731 : (Jvm.Cond.soleField "java/lang/Throwable" "depth") ∈ tables_1 := xc4 (List.mem_of_getElem? (i := 11) rfl)
theorem kw_732 : (Jvm.Cond.soleField "java/lang/Throwable" "suppressedExceptions") ∈ tables_1 := xc4 (List.mem_of_getElem? (i := 12) rfl)
theorem kw_733 : (Jvm.Cond.superclass "java/lang/IllegalArgumentException" "java/lang/RuntimeException") ∈ tables_1 := xc4 (List.mem_of_getElem? (i := 13) rfl)
theorem kw_734 : (Jvm.Cond.arrayClass Jvm.ClassFile.FieldType.byte) ∈ wsG := xg_tab (xc4 (List.mem_of_getElem? (i := 14) rfl)) rfl
theorem kw_735 : (Jvm.Cond.methodLink "ContractLoaders" (182 : Nat) ({ cls := "ContractLoaders$Rows", name := "shown", desc := "(II)J" } : Jvm.MethodName)) ∈ wsG := xg_tab (xc4 (List.mem_of_getElem? (i := 15) rfl)) rfl
theorem kw_736 : (Jvm.Cond.instanceMethod ({ cls := "ContractLoaders$Rows", name := "shown", desc := "(II)J" } : Jvm.MethodName)) ∈ wsG := xg_tab (xc4 (List.mem_of_getElem? (i := 16) rfl)) rfl
theorem kw_737 : (Jvm.Cond.selects "ContractLoaders$Rows" ({ cls := "ContractLoaders$Rows", name := "shown", desc := "(II)J" } : Jvm.MethodName) ({ cls := "ContractLoaders$Rows", name := "shown", desc := "(II)J" } : Jvm.MethodName)) ∈ wsG := xg_tab (xc4 (List.mem_of_getElem? (i := 17) rfl)) rfl
theorem kw_738 : (Jvm.Cond.code ({ cls := "ContractLoaders$Rows", name := "shown", desc := "(II)J" } : Jvm.MethodName) prog_9_method_9_code (3 : Nat) (Option.some Jvm.ClassFile.FieldType.long)) ∈ wsG := xg_tab (xc4 (List.mem_of_getElem? (i := 18) rfl)) rfl
theorem kw_739 : (Jvm.Cond.methodLink "ContractLoaders$Rows" (33 : Nat) ({ cls := "ContractLoaders$Rows", name := "bitsOf", desc := "(D)J" } : Jvm.MethodName)) ∈ wsG := xg_tab (xc4 (List.mem_of_getElem? (i := 19) rfl)) rfl
theorem kw_740 : (Jvm.Cond.static ({ cls := "ContractLoaders$Rows", name := "bitsOf", desc := "(D)J" } : Jvm.MethodName)) ∈ wsG := xg_tab (xc4 (List.mem_of_getElem? (i := 20) rfl)) rfl
theorem kw_741 : (Jvm.Cond.code ({ cls := "ContractLoaders$Rows", name := "bitsOf", desc := "(D)J" } : Jvm.MethodName) prog_9_method_11_code (10 : Nat) (Option.some Jvm.ClassFile.FieldType.long)) ∈ wsG := xg_tab (xc4 (List.mem_of_getElem? (i := 21) rfl)) rfl
theorem kw_742 : (Jvm.Cond.constantLong "ContractLoaders$Rows" (37 : Nat) (1023 : Int64)) ∈ wsG := xg_tab (xc4 (List.mem_of_getElem? (i := 22) rfl)) rfl
theorem kw_743 : (Jvm.Cond.constantDouble "ContractLoaders$Rows" (39 : Nat) (4611686018427387904 : UInt64)) ∈ wsG := xg_tab (xc4 (List.mem_of_getElem? (i := 23) rfl)) rfl
theorem kw_744 : (Jvm.Cond.constantLong "ContractLoaders$Rows" (41 : Nat) (2046 : Int64)) ∈ wsG := xg_tab (xc4 (List.mem_of_getElem? (i := 24) rfl)) rfl
theorem kw_745 : (Jvm.Cond.constantDouble "ContractLoaders$Rows" (43 : Nat) (4841369599423283200 : UInt64)) ∈ wsG := xg_tab (xc4 (List.mem_of_getElem? (i := 25) rfl)) rfl
theorem kw_746 : (Jvm.Cond.constantLong "ContractLoaders$Rows" (45 : Nat) (4503599627370496 : Int64)) ∈ wsG := xg_tab (xc4 (List.mem_of_getElem? (i := 26) rfl)) rfl
theorem kw_747 : (Jvm.Cond.classLink "ContractLoadersLaw" (16 : Nat) "ContractLoadersModel") ∈ wsG := xg_tab (xc4 (List.mem_of_getElem? (i := 27) rfl)) rfl
theorem kw_748 : (Jvm.Cond.instantiable "ContractLoadersModel" (52 : Nat)) ∈ wsG := xg_tab (xc4 (List.mem_of_getElem? (i := 28) rfl)) rfl
theorem kw_749 : (Jvm.Cond.methodLink "ContractLoadersLaw" (18 : Nat) ({ cls := "ContractLoadersModel", name := "<init>", desc := "()V" } : Jvm.MethodName)) ∈ wsG := xg_tab (xc4 (List.mem_of_getElem? (i := 29) rfl)) rfl
theorem kw_750 : (Jvm.Cond.instanceMethod ({ cls := "ContractLoadersModel", name := "<init>", desc := "()V" } : Jvm.MethodName)) ∈ wsG := xg_tab (xc4 (List.mem_of_getElem? (i := 30) rfl)) rfl
theorem kw_751 : (Jvm.Cond.code ({ cls := "ContractLoadersModel", name := "<init>", desc := "()V" } : Jvm.MethodName) prog_11_method_1_code (2 : Nat) (Option.none : Option Jvm.ClassFile.FieldType)) ∈ wsG := xg_tab (xc4 (List.mem_of_getElem? (i := 31) rfl)) rfl
theorem kw_752 : (Jvm.Cond.methodLink "ContractLoadersModel" (1 : Nat) ({ cls := "java/lang/Object", name := "<init>", desc := "()V" } : Jvm.MethodName)) ∈ wsG := xg_tab (xc4 (List.mem_of_getElem? (i := 32) rfl)) rfl
theorem kw_753 : (Jvm.Cond.constant "ContractLoadersModel" (121 : Nat) (84000 : Int32)) ∈ wsG := xg_tab (xc4 (List.mem_of_getElem? (i := 33) rfl)) rfl
theorem kw_754 : (Jvm.Cond.fieldLink "ContractLoadersModel" (128 : Nat) "ContractLoadersModel" "thrown" "I") ∈ wsG := xg_tab (xc4 (List.mem_of_getElem? (i := 34) rfl)) rfl
theorem kw_755 : (Jvm.Cond.fieldLink "ContractLoadersModel" (137 : Nat) "ContractLoadersModel" "files" "I") ∈ wsG := xg_tab (xc4 (List.mem_of_getElem? (i := 35) rfl)) rfl
theorem kw_756 : (Jvm.Cond.fieldLink "ContractLoadersModel" (7 : Nat) "ContractLoadersModel" "inner" "[I") ∈ wsG := xg_tab (xc4 (List.mem_of_getElem? (i := 36) rfl)) rfl
theorem kw_757 : (Jvm.Cond.fieldLink "ContractLoadersModel" (13 : Nat) "ContractLoadersModel" "superNames" "[I") ∈ wsG := xg_tab (xc4 (List.mem_of_getElem? (i := 37) rfl)) rfl
theorem kw_758 : (Jvm.Cond.fieldLink "ContractLoadersModel" (16 : Nat) "ContractLoadersModel" "isFace" "[Z") ∈ wsG := xg_tab (xc4 (List.mem_of_getElem? (i := 38) rfl)) rfl
theorem kw_759 : (Jvm.Cond.fieldLink "ContractLoadersModel" (20 : Nat) "ContractLoadersModel" "isLast" "[Z") ∈ wsG := xg_tab (xc4 (List.mem_of_getElem? (i := 39) rfl)) rfl
theorem kw_760 : (Jvm.Cond.fieldLink "ContractLoadersModel" (23 : Nat) "ContractLoadersModel" "lanes" "[I") ∈ wsG := xg_tab (xc4 (List.mem_of_getElem? (i := 40) rfl)) rfl
theorem kw_761 : (Jvm.Cond.fieldLink "ContractLoadersModel" (26 : Nat) "ContractLoadersModel" "faceMany" "[I") ∈ wsG := xg_tab (xc4 (List.mem_of_getElem? (i := 41) rfl)) rfl
theorem kw_762 : (Jvm.Cond.fieldLink "ContractLoadersModel" (29 : Nat) "ContractLoadersModel" "faceNames" "[I") ∈ wsG := xg_tab (xc4 (List.mem_of_getElem? (i := 42) rfl)) rfl
theorem kw_763 : (Jvm.Cond.fieldLink "ContractLoadersModel" (32 : Nat) "ContractLoadersModel" "many" "[I") ∈ wsG := xg_tab (xc4 (List.mem_of_getElem? (i := 43) rfl)) rfl
theorem kw_764 : (Jvm.Cond.fieldLink "ContractLoadersModel" (35 : Nat) "ContractLoadersModel" "kinds" "[I") ∈ wsG := xg_tab (xc4 (List.mem_of_getElem? (i := 44) rfl)) rfl
theorem kw_765 : (Jvm.Cond.fieldLink "ContractLoadersModel" (38 : Nat) "ContractLoadersModel" "firsts" "[I") ∈ wsG := xg_tab (xc4 (List.mem_of_getElem? (i := 45) rfl)) rfl
theorem kw_766 : (Jvm.Cond.fieldLink "ContractLoadersModel" (41 : Nat) "ContractLoadersModel" "seconds" "[I") ∈ wsG := xg_tab (xc4 (List.mem_of_getElem? (i := 46) rfl)) rfl
theorem kw_767 : (Jvm.Cond.fieldLink "ContractLoadersModel" (44 : Nat) "ContractLoadersModel" "loaders" "I") ∈ wsG := xg_tab (xc4 (List.mem_of_getElem? (i := 47) rfl)) rfl
theorem kw_768 : (Jvm.Cond.fieldLink "ContractLoadersModel" (48 : Nat) "ContractLoadersModel" "parents" "[I") ∈ wsG := xg_tab (xc4 (List.mem_of_getElem? (i := 48) rfl)) rfl
theorem kw_769 : (Jvm.Cond.fieldLink "ContractLoadersModel" (51 : Nat) "ContractLoadersModel" "offers" "[I") ∈ wsG := xg_tab (xc4 (List.mem_of_getElem? (i := 49) rfl)) rfl
theorem kw_770 : (Jvm.Cond.fieldLink "ContractLoadersModel" (54 : Nat) "ContractLoadersModel" "isThere" "[Z") ∈ wsG := xg_tab (xc4 (List.mem_of_getElem? (i := 50) rfl)) rfl
theorem kw_771 : (Jvm.Cond.fieldLink "ContractLoadersModel" (57 : Nat) "ContractLoadersModel" "isMaking" "[Z") ∈ wsG := xg_tab (xc4 (List.mem_of_getElem? (i := 51) rfl)) rfl
theorem kw_772 : (Jvm.Cond.fieldLink "ContractLoadersModel" (60 : Nat) "ContractLoadersModel" "supers" "[I") ∈ wsG := xg_tab (xc4 (List.mem_of_getElem? (i := 52) rfl)) rfl
theorem kw_773 : (Jvm.Cond.fieldLink "ContractLoadersModel" (63 : Nat) "ContractLoadersModel" "faces" "[I") ∈ wsG := xg_tab (xc4 (List.mem_of_getElem? (i := 53) rfl)) rfl
theorem kw_774 : (Jvm.Cond.fieldLink "ContractLoadersModel" (66 : Nat) "ContractLoadersModel" "holds" "[I") ∈ wsG := xg_tab (xc4 (List.mem_of_getElem? (i := 54) rfl)) rfl
theorem kw_775 : (Jvm.Cond.fieldLink "ContractLoadersModel" (197 : Nat) "ContractLoadersModel" "made" "I") ∈ wsG := xg_tab (xc4 (List.mem_of_getElem? (i := 55) rfl)) rfl
theorem kw_776 : (Jvm.Cond.fieldLink "ContractLoadersModel" (69 : Nat) "ContractLoadersModel" "findAt" "[I") ∈ wsG := xg_tab (xc4 (List.mem_of_getElem? (i := 56) rfl)) rfl
theorem kw_777 : (Jvm.Cond.fieldLink "ContractLoadersModel" (72 : Nat) "ContractLoadersModel" "findStage" "[I") ∈ wsG := xg_tab (xc4 (List.mem_of_getElem? (i := 57) rfl)) rfl
theorem kw_778 : (Jvm.Cond.fieldLink "ContractLoadersModel" (163 : Nat) "ContractLoadersModel" "finding" "I") ∈ wsG := xg_tab (xc4 (List.mem_of_getElem? (i := 58) rfl)) rfl
theorem kw_779 : (Jvm.Cond.fieldLink "ContractLoadersModel" (166 : Nat) "ContractLoadersModel" "gave" "I") ∈ wsG := xg_tab (xc4 (List.mem_of_getElem? (i := 59) rfl)) rfl
theorem kw_780 : (Jvm.Cond.fieldLink "ContractLoadersModel" (75 : Nat) "ContractLoadersModel" "above" "[I") ∈ wsG := xg_tab (xc4 (List.mem_of_getElem? (i := 60) rfl)) rfl
theorem kw_781 : (Jvm.Cond.fieldLink "ContractLoadersModel" (78 : Nat) "ContractLoadersModel" "isAbove" "[Z") ∈ wsG := xg_tab (xc4 (List.mem_of_getElem? (i := 61) rfl)) rfl
theorem kw_782 : (Jvm.Cond.fieldLink "ContractLoadersModel" (221 : Nat) "ContractLoadersModel" "contracts" "I") ∈ wsG := xg_tab (xc4 (List.mem_of_getElem? (i := 62) rfl)) rfl
theorem kw_783 : (Jvm.Cond.fieldLink "ContractLoadersModel" (81 : Nat) "ContractLoadersModel" "loaderOf" "[I") ∈ wsG := xg_tab (xc4 (List.mem_of_getElem? (i := 63) rfl)) rfl
theorem kw_784 : (Jvm.Cond.fieldLink "ContractLoadersModel" (84 : Nat) "ContractLoadersModel" "nameOf" "[I") ∈ wsG := xg_tab (xc4 (List.mem_of_getElem? (i := 64) rfl)) rfl
theorem kw_785 : (Jvm.Cond.fieldLink "ContractLoadersModel" (87 : Nat) "ContractLoadersModel" "rowLane" "[I") ∈ wsG := xg_tab (xc4 (List.mem_of_getElem? (i := 65) rfl)) rfl
theorem kw_786 : (Jvm.Cond.fieldLink "ContractLoadersModel" (90 : Nat) "ContractLoadersModel" "rows" "[J") ∈ wsG := xg_tab (xc4 (List.mem_of_getElem? (i := 66) rfl)) rfl
theorem kw_787 : (Jvm.Cond.fieldLink "ContractLoadersModel" (232 : Nat) "ContractLoadersModel" "depth" "I") ∈ wsG := xg_tab (xc4 (List.mem_of_getElem? (i := 67) rfl)) rfl
theorem kw_788 : (Jvm.Cond.fieldLink "ContractLoadersModel" (94 : Nat) "ContractLoadersModel" "contractOf" "[I") ∈ wsG := xg_tab (xc4 (List.mem_of_getElem? (i := 68) rfl)) rfl
theorem kw_789 : (Jvm.Cond.fieldLink "ContractLoadersModel" (97 : Nat) "ContractLoadersModel" "heldOf" "[I") ∈ wsG := xg_tab (xc4 (List.mem_of_getElem? (i := 69) rfl)) rfl
theorem kw_790 : (Jvm.Cond.fieldLink "ContractLoadersModel" (100 : Nat) "ContractLoadersModel" "isCall" "[Z") ∈ wsG := xg_tab (xc4 (List.mem_of_getElem? (i := 70) rfl)) rfl
theorem kw_791 : (Jvm.Cond.fieldLink "ContractLoadersModel" (103 : Nat) "ContractLoadersModel" "methodOf" "[I") ∈ wsG := xg_tab (xc4 (List.mem_of_getElem? (i := 71) rfl)) rfl
theorem kw_792 : (Jvm.Cond.fieldLink "ContractLoadersModel" (106 : Nat) "ContractLoadersModel" "classOf" "[I") ∈ wsG := xg_tab (xc4 (List.mem_of_getElem? (i := 72) rfl)) rfl
theorem kw_793 : (Jvm.Cond.fieldLink "ContractLoadersModel" (109 : Nat) "ContractLoadersModel" "place" "[I") ∈ wsG := xg_tab (xc4 (List.mem_of_getElem? (i := 73) rfl)) rfl
theorem kw_794 : (Jvm.Cond.fieldLink "ContractLoadersModel" (112 : Nat) "ContractLoadersModel" "isWaiting" "[Z") ∈ wsG := xg_tab (xc4 (List.mem_of_getElem? (i := 74) rfl)) rfl
theorem kw_795 : (Jvm.Cond.fieldLink "ContractLoadersModel" (115 : Nat) "ContractLoadersModel" "isTried" "[Z") ∈ wsG := xg_tab (xc4 (List.mem_of_getElem? (i := 75) rfl)) rfl
theorem kw_796 : (Jvm.Cond.fieldLink "ContractLoadersModel" (118 : Nat) "ContractLoadersModel" "values" "[J") ∈ wsG := xg_tab (xc4 (List.mem_of_getElem? (i := 76) rfl)) rfl
theorem kw_797 : (Jvm.Cond.fieldLink "ContractLoadersModel" (122 : Nat) "ContractLoadersModel" "kept" "[J") ∈ wsG := xg_tab (xc4 (List.mem_of_getElem? (i := 77) rfl)) rfl
theorem kw_798 : (Jvm.Cond.fieldLink "ContractLoadersModel" (235 : Nat) "ContractLoadersModel" "inWork" "I") ∈ wsG := xg_tab (xc4 (List.mem_of_getElem? (i := 78) rfl)) rfl
theorem kw_799 : (Jvm.Cond.fieldLink "ContractLoadersModel" (241 : Nat) "ContractLoadersModel" "mostInWork" "I") ∈ wsG := xg_tab (xc4 (List.mem_of_getElem? (i := 79) rfl)) rfl
theorem kw_800 : (Jvm.Cond.fieldLink "ContractLoadersModel" (238 : Nat) "ContractLoadersModel" "calls" "I") ∈ wsG := xg_tab (xc4 (List.mem_of_getElem? (i := 80) rfl)) rfl
theorem kw_801 : (Jvm.Cond.fieldLink "ContractLoadersModel" (261 : Nat) "ContractLoadersModel" "steps" "I") ∈ wsG := xg_tab (xc4 (List.mem_of_getElem? (i := 81) rfl)) rfl
theorem kw_802 : (Jvm.Cond.fieldLink "ContractLoadersModel" (251 : Nat) "ContractLoadersModel" "failure" "I") ∈ wsG := xg_tab (xc4 (List.mem_of_getElem? (i := 82) rfl)) rfl
theorem kw_803 : (Jvm.Cond.fieldLink "ContractLoadersModel" (257 : Nat) "ContractLoadersModel" "value" "J") ∈ wsG := xg_tab (xc4 (List.mem_of_getElem? (i := 83) rfl)) rfl
theorem kw_804 : (Jvm.Cond.fieldLink "ContractLoadersModel" (125 : Nat) "ContractLoadersModel" "before" "[J") ∈ wsG := xg_tab (xc4 (List.mem_of_getElem? (i := 84) rfl)) rfl
theorem kw_805 : (Jvm.Cond.fieldLink "ContractLoadersModel" (300 : Nat) "ContractLoadersModel" "latest" "J") ∈ wsG := xg_tab (xc4 (List.mem_of_getElem? (i := 85) rfl)) rfl
theorem kw_806 : (Jvm.Cond.lays "ContractLoadersModel" "ContractLoadersModel" "thrown" "I") ∈ wsG := xg_tab (xc4 (List.mem_of_getElem? (i := 86) rfl)) rfl
theorem kw_807 : (Jvm.Cond.soleField "ContractLoadersModel" "thrown") ∈ tables_1 := xc4 (List.mem_of_getElem? (i := 87) rfl)
theorem kw_808 : (Jvm.Cond.lays "ContractLoadersModel" "ContractLoadersModel" "files" "I") ∈ wsG := xg_tab (xc4 (List.mem_of_getElem? (i := 88) rfl)) rfl
theorem kw_809 : (Jvm.Cond.soleField "ContractLoadersModel" "files") ∈ tables_1 := xc4 (List.mem_of_getElem? (i := 89) rfl)
theorem kw_810 : (Jvm.Cond.laysFinal "ContractLoadersModel" "ContractLoadersModel" "inner" "[I") ∈ wsG := xg_tab (xc4 (List.mem_of_getElem? (i := 90) rfl)) rfl
theorem kw_811 : (Jvm.Cond.soleField "ContractLoadersModel" "inner") ∈ tables_1 := xc4 (List.mem_of_getElem? (i := 91) rfl)
theorem kw_812 : (Jvm.Cond.laysFinal "ContractLoadersModel" "ContractLoadersModel" "superNames" "[I") ∈ wsG := xg_tab (xc4 (List.mem_of_getElem? (i := 92) rfl)) rfl
theorem kw_813 : (Jvm.Cond.soleField "ContractLoadersModel" "superNames") ∈ tables_1 := xc4 (List.mem_of_getElem? (i := 93) rfl)
theorem kw_814 : (Jvm.Cond.laysFinal "ContractLoadersModel" "ContractLoadersModel" "isFace" "[Z") ∈ wsG := xg_tab (xc4 (List.mem_of_getElem? (i := 94) rfl)) rfl
theorem kw_815 : (Jvm.Cond.soleField "ContractLoadersModel" "isFace") ∈ tables_1 := xc4 (List.mem_of_getElem? (i := 95) rfl)
theorem kw_816 : (Jvm.Cond.laysFinal "ContractLoadersModel" "ContractLoadersModel" "isLast" "[Z") ∈ wsG := xg_tab (xc4 (List.mem_of_getElem? (i := 96) rfl)) rfl
theorem kw_817 : (Jvm.Cond.soleField "ContractLoadersModel" "isLast") ∈ tables_1 := xc4 (List.mem_of_getElem? (i := 97) rfl)
theorem kw_818 : (Jvm.Cond.laysFinal "ContractLoadersModel" "ContractLoadersModel" "lanes" "[I") ∈ wsG := xg_tab (xc4 (List.mem_of_getElem? (i := 98) rfl)) rfl
theorem kw_819 : (Jvm.Cond.soleField "ContractLoadersModel" "lanes") ∈ tables_1 := xc4 (List.mem_of_getElem? (i := 99) rfl)
theorem kw_820 : (Jvm.Cond.laysFinal "ContractLoadersModel" "ContractLoadersModel" "faceMany" "[I") ∈ wsG := xg_tab (xc4 (List.mem_of_getElem? (i := 100) rfl)) rfl
theorem kw_821 : (Jvm.Cond.soleField "ContractLoadersModel" "faceMany") ∈ tables_1 := xc4 (List.mem_of_getElem? (i := 101) rfl)
theorem kw_822 : (Jvm.Cond.laysFinal "ContractLoadersModel" "ContractLoadersModel" "faceNames" "[I") ∈ wsG := xg_tab (xc4 (List.mem_of_getElem? (i := 102) rfl)) rfl
theorem kw_823 : (Jvm.Cond.soleField "ContractLoadersModel" "faceNames") ∈ tables_1 := xc4 (List.mem_of_getElem? (i := 103) rfl)
theorem kw_824 : (Jvm.Cond.laysFinal "ContractLoadersModel" "ContractLoadersModel" "many" "[I") ∈ wsG := xg_tab (xc4 (List.mem_of_getElem? (i := 104) rfl)) rfl
theorem kw_825 : (Jvm.Cond.soleField "ContractLoadersModel" "many") ∈ tables_1 := xc4 (List.mem_of_getElem? (i := 105) rfl)
theorem kw_826 : (Jvm.Cond.laysFinal "ContractLoadersModel" "ContractLoadersModel" "kinds" "[I") ∈ wsG := xg_tab (xc4 (List.mem_of_getElem? (i := 106) rfl)) rfl
theorem kw_827 : (Jvm.Cond.soleField "ContractLoadersModel" "kinds") ∈ tables_1 := xc4 (List.mem_of_getElem? (i := 107) rfl)
theorem kw_828 : (Jvm.Cond.laysFinal "ContractLoadersModel" "ContractLoadersModel" "firsts" "[I") ∈ wsG := xg_tab (xc4 (List.mem_of_getElem? (i := 108) rfl)) rfl
theorem kw_829 : (Jvm.Cond.soleField "ContractLoadersModel" "firsts") ∈ tables_1 := xc4 (List.mem_of_getElem? (i := 109) rfl)
theorem kw_830 : (Jvm.Cond.laysFinal "ContractLoadersModel" "ContractLoadersModel" "seconds" "[I") ∈ wsG := xg_tab (xc4 (List.mem_of_getElem? (i := 110) rfl)) rfl
theorem kw_831 : (Jvm.Cond.soleField "ContractLoadersModel" "seconds") ∈ tables_1 := xc4 (List.mem_of_getElem? (i := 111) rfl)
theorem kw_832 : (Jvm.Cond.lays "ContractLoadersModel" "ContractLoadersModel" "loaders" "I") ∈ wsG := xg_tab (xc4 (List.mem_of_getElem? (i := 112) rfl)) rfl
theorem kw_833 : (Jvm.Cond.soleField "ContractLoadersModel" "loaders") ∈ tables_1 := xc4 (List.mem_of_getElem? (i := 113) rfl)
theorem kw_834 : (Jvm.Cond.laysFinal "ContractLoadersModel" "ContractLoadersModel" "parents" "[I") ∈ wsG := xg_tab (xc4 (List.mem_of_getElem? (i := 114) rfl)) rfl
theorem kw_835 : (Jvm.Cond.soleField "ContractLoadersModel" "parents") ∈ tables_1 := xc4 (List.mem_of_getElem? (i := 115) rfl)
theorem kw_836 : (Jvm.Cond.laysFinal "ContractLoadersModel" "ContractLoadersModel" "offers" "[I") ∈ wsG := xg_tab (xc4 (List.mem_of_getElem? (i := 116) rfl)) rfl
theorem kw_837 : (Jvm.Cond.soleField "ContractLoadersModel" "offers") ∈ tables_1 := xc4 (List.mem_of_getElem? (i := 117) rfl)
theorem kw_838 : (Jvm.Cond.laysFinal "ContractLoadersModel" "ContractLoadersModel" "isThere" "[Z") ∈ wsG := xg_tab (xc4 (List.mem_of_getElem? (i := 118) rfl)) rfl
theorem kw_839 : (Jvm.Cond.soleField "ContractLoadersModel" "isThere") ∈ tables_1 := xc4 (List.mem_of_getElem? (i := 119) rfl)
theorem kw_840 : (Jvm.Cond.laysFinal "ContractLoadersModel" "ContractLoadersModel" "isMaking" "[Z") ∈ wsG := xg_tab (xc4 (List.mem_of_getElem? (i := 120) rfl)) rfl
theorem kw_841 : (Jvm.Cond.soleField "ContractLoadersModel" "isMaking") ∈ tables_1 := xc4 (List.mem_of_getElem? (i := 121) rfl)
theorem kw_842 : (Jvm.Cond.laysFinal "ContractLoadersModel" "ContractLoadersModel" "supers" "[I") ∈ wsG := xg_tab (xc4 (List.mem_of_getElem? (i := 122) rfl)) rfl
theorem kw_843 : (Jvm.Cond.soleField "ContractLoadersModel" "supers") ∈ tables_1 := xc4 (List.mem_of_getElem? (i := 123) rfl)
theorem kw_844 : (Jvm.Cond.laysFinal "ContractLoadersModel" "ContractLoadersModel" "faces" "[I") ∈ wsG := xg_tab (xc4 (List.mem_of_getElem? (i := 124) rfl)) rfl
theorem kw_845 : (Jvm.Cond.soleField "ContractLoadersModel" "faces") ∈ tables_1 := xc4 (List.mem_of_getElem? (i := 125) rfl)
theorem kw_846 : (Jvm.Cond.laysFinal "ContractLoadersModel" "ContractLoadersModel" "holds" "[I") ∈ wsG := xg_tab (xc4 (List.mem_of_getElem? (i := 126) rfl)) rfl
theorem kw_847 : (Jvm.Cond.soleField "ContractLoadersModel" "holds") ∈ tables_1 := xc4 (List.mem_of_getElem? (i := 127) rfl)
theorem kw_848 : (Jvm.Cond.lays "ContractLoadersModel" "ContractLoadersModel" "made" "I") ∈ wsG := xg_tab (xc4 (List.mem_of_getElem? (i := 128) rfl)) rfl
theorem kw_849 : (Jvm.Cond.soleField "ContractLoadersModel" "made") ∈ tables_1 := xc4 (List.mem_of_getElem? (i := 129) rfl)
theorem kw_850 : (Jvm.Cond.laysFinal "ContractLoadersModel" "ContractLoadersModel" "findAt" "[I") ∈ wsG := xg_tab (xc4 (List.mem_of_getElem? (i := 130) rfl)) rfl
theorem kw_851 : (Jvm.Cond.soleField "ContractLoadersModel" "findAt") ∈ tables_1 := xc4 (List.mem_of_getElem? (i := 131) rfl)
theorem kw_852 : (Jvm.Cond.laysFinal "ContractLoadersModel" "ContractLoadersModel" "findStage" "[I") ∈ wsG := xg_tab (xc4 (List.mem_of_getElem? (i := 132) rfl)) rfl
theorem kw_853 : (Jvm.Cond.soleField "ContractLoadersModel" "findStage") ∈ tables_1 := xc4 (List.mem_of_getElem? (i := 133) rfl)
theorem kw_854 : (Jvm.Cond.lays "ContractLoadersModel" "ContractLoadersModel" "finding" "I") ∈ wsG := xg_tab (xc4 (List.mem_of_getElem? (i := 134) rfl)) rfl
theorem kw_855 : (Jvm.Cond.soleField "ContractLoadersModel" "finding") ∈ tables_1 := xc4 (List.mem_of_getElem? (i := 135) rfl)
theorem kw_856 : (Jvm.Cond.lays "ContractLoadersModel" "ContractLoadersModel" "gave" "I") ∈ wsG := xg_tab (xc4 (List.mem_of_getElem? (i := 136) rfl)) rfl
theorem kw_857 : (Jvm.Cond.soleField "ContractLoadersModel" "gave") ∈ tables_1 := xc4 (List.mem_of_getElem? (i := 137) rfl)
theorem kw_858 : (Jvm.Cond.laysFinal "ContractLoadersModel" "ContractLoadersModel" "above" "[I") ∈ wsG := xg_tab (xc4 (List.mem_of_getElem? (i := 138) rfl)) rfl
theorem kw_859 : (Jvm.Cond.soleField "ContractLoadersModel" "above") ∈ tables_1 := xc4 (List.mem_of_getElem? (i := 139) rfl)
theorem kw_860 : (Jvm.Cond.laysFinal "ContractLoadersModel" "ContractLoadersModel" "isAbove" "[Z") ∈ wsG := xg_tab (xc4 (List.mem_of_getElem? (i := 140) rfl)) rfl
theorem kw_861 : (Jvm.Cond.soleField "ContractLoadersModel" "isAbove") ∈ tables_1 := xc4 (List.mem_of_getElem? (i := 141) rfl)
theorem kw_862 : (Jvm.Cond.lays "ContractLoadersModel" "ContractLoadersModel" "contracts" "I") ∈ wsG := xg_tab (xc4 (List.mem_of_getElem? (i := 142) rfl)) rfl
theorem kw_863 : (Jvm.Cond.soleField "ContractLoadersModel" "contracts") ∈ tables_1 := xc4 (List.mem_of_getElem? (i := 143) rfl)
theorem kw_864 : (Jvm.Cond.laysFinal "ContractLoadersModel" "ContractLoadersModel" "loaderOf" "[I") ∈ wsG := xg_tab (xc4 (List.mem_of_getElem? (i := 144) rfl)) rfl
theorem kw_865 : (Jvm.Cond.soleField "ContractLoadersModel" "loaderOf") ∈ tables_1 := xc4 (List.mem_of_getElem? (i := 145) rfl)
theorem kw_866 : (Jvm.Cond.laysFinal "ContractLoadersModel" "ContractLoadersModel" "nameOf" "[I") ∈ wsG := xg_tab (xc4 (List.mem_of_getElem? (i := 146) rfl)) rfl
theorem kw_867 : (Jvm.Cond.soleField "ContractLoadersModel" "nameOf") ∈ tables_1 := xc4 (List.mem_of_getElem? (i := 147) rfl)
theorem kw_868 : (Jvm.Cond.laysFinal "ContractLoadersModel" "ContractLoadersModel" "rowLane" "[I") ∈ wsG := xg_tab (xc4 (List.mem_of_getElem? (i := 148) rfl)) rfl
theorem kw_869 : (Jvm.Cond.soleField "ContractLoadersModel" "rowLane") ∈ tables_1 := xc4 (List.mem_of_getElem? (i := 149) rfl)
theorem kw_870 : (Jvm.Cond.laysFinal "ContractLoadersModel" "ContractLoadersModel" "rows" "[J") ∈ wsG := xg_tab (xc4 (List.mem_of_getElem? (i := 150) rfl)) rfl
theorem kw_871 : (Jvm.Cond.soleField "ContractLoadersModel" "rows") ∈ tables_1 := xc4 (List.mem_of_getElem? (i := 151) rfl)
theorem kw_872 : (Jvm.Cond.lays "ContractLoadersModel" "ContractLoadersModel" "depth" "I") ∈ wsG := xg_tab (xc4 (List.mem_of_getElem? (i := 152) rfl)) rfl
theorem kw_873 : (Jvm.Cond.soleField "ContractLoadersModel" "depth") ∈ tables_1 := xc4 (List.mem_of_getElem? (i := 153) rfl)
theorem kw_874 : (Jvm.Cond.laysFinal "ContractLoadersModel" "ContractLoadersModel" "contractOf" "[I") ∈ wsG := xg_tab (xc4 (List.mem_of_getElem? (i := 154) rfl)) rfl
theorem kw_875 : (Jvm.Cond.soleField "ContractLoadersModel" "contractOf") ∈ tables_1 := xc4 (List.mem_of_getElem? (i := 155) rfl)
theorem kw_876 : (Jvm.Cond.laysFinal "ContractLoadersModel" "ContractLoadersModel" "heldOf" "[I") ∈ wsG := xg_tab (xc4 (List.mem_of_getElem? (i := 156) rfl)) rfl
theorem kw_877 : (Jvm.Cond.soleField "ContractLoadersModel" "heldOf") ∈ tables_1 := xc4 (List.mem_of_getElem? (i := 157) rfl)
theorem kw_878 : (Jvm.Cond.laysFinal "ContractLoadersModel" "ContractLoadersModel" "isCall" "[Z") ∈ wsG := xg_tab (xc4 (List.mem_of_getElem? (i := 158) rfl)) rfl
theorem kw_879 : (Jvm.Cond.soleField "ContractLoadersModel" "isCall") ∈ tables_1 := xc4 (List.mem_of_getElem? (i := 159) rfl)
theorem kw_880 : (Jvm.Cond.laysFinal "ContractLoadersModel" "ContractLoadersModel" "methodOf" "[I") ∈ wsG := xg_tab (xc4 (List.mem_of_getElem? (i := 160) rfl)) rfl
theorem kw_881 : (Jvm.Cond.soleField "ContractLoadersModel" "methodOf") ∈ tables_1 := xc4 (List.mem_of_getElem? (i := 161) rfl)
theorem kw_882 : (Jvm.Cond.laysFinal "ContractLoadersModel" "ContractLoadersModel" "classOf" "[I") ∈ wsG := xg_tab (xc4 (List.mem_of_getElem? (i := 162) rfl)) rfl
theorem kw_883 : (Jvm.Cond.soleField "ContractLoadersModel" "classOf") ∈ tables_1 := xc4 (List.mem_of_getElem? (i := 163) rfl)
theorem kw_884 : (Jvm.Cond.laysFinal "ContractLoadersModel" "ContractLoadersModel" "place" "[I") ∈ wsG := xg_tab (xc4 (List.mem_of_getElem? (i := 164) rfl)) rfl
theorem kw_885 : (Jvm.Cond.soleField "ContractLoadersModel" "place") ∈ tables_1 := xc4 (List.mem_of_getElem? (i := 165) rfl)
theorem kw_886 : (Jvm.Cond.laysFinal "ContractLoadersModel" "ContractLoadersModel" "isWaiting" "[Z") ∈ wsG := xg_tab (xc4 (List.mem_of_getElem? (i := 166) rfl)) rfl
theorem kw_887 : (Jvm.Cond.soleField "ContractLoadersModel" "isWaiting") ∈ tables_1 := xc4 (List.mem_of_getElem? (i := 167) rfl)
theorem kw_888 : (Jvm.Cond.laysFinal "ContractLoadersModel" "ContractLoadersModel" "isTried" "[Z") ∈ wsG := xg_tab (xc4 (List.mem_of_getElem? (i := 168) rfl)) rfl
theorem kw_889 : (Jvm.Cond.soleField "ContractLoadersModel" "isTried") ∈ tables_1 := xc4 (List.mem_of_getElem? (i := 169) rfl)
theorem kw_890 : (Jvm.Cond.laysFinal "ContractLoadersModel" "ContractLoadersModel" "values" "[J") ∈ wsG := xg_tab (xc4 (List.mem_of_getElem? (i := 170) rfl)) rfl
theorem kw_891 : (Jvm.Cond.soleField "ContractLoadersModel" "values") ∈ tables_1 := xc4 (List.mem_of_getElem? (i := 171) rfl)
theorem kw_892 : (Jvm.Cond.laysFinal "ContractLoadersModel" "ContractLoadersModel" "kept" "[J") ∈ wsG := xg_tab (xc4 (List.mem_of_getElem? (i := 172) rfl)) rfl
theorem kw_893 : (Jvm.Cond.soleField "ContractLoadersModel" "kept") ∈ tables_1 := xc4 (List.mem_of_getElem? (i := 173) rfl)
theorem kw_894 : (Jvm.Cond.lays "ContractLoadersModel" "ContractLoadersModel" "inWork" "I") ∈ wsG := xg_tab (xc4 (List.mem_of_getElem? (i := 174) rfl)) rfl
theorem kw_895 : (Jvm.Cond.soleField "ContractLoadersModel" "inWork") ∈ tables_1 := xc4 (List.mem_of_getElem? (i := 175) rfl)
theorem kw_896 : (Jvm.Cond.lays "ContractLoadersModel" "ContractLoadersModel" "mostInWork" "I") ∈ wsG := xg_tab (xc4 (List.mem_of_getElem? (i := 176) rfl)) rfl
theorem kw_897 : (Jvm.Cond.soleField "ContractLoadersModel" "mostInWork") ∈ tables_1 := xc4 (List.mem_of_getElem? (i := 177) rfl)
theorem kw_898 : (Jvm.Cond.lays "ContractLoadersModel" "ContractLoadersModel" "calls" "I") ∈ wsG := xg_tab (xc4 (List.mem_of_getElem? (i := 178) rfl)) rfl
theorem kw_899 : (Jvm.Cond.soleField "ContractLoadersModel" "calls") ∈ tables_1 := xc4 (List.mem_of_getElem? (i := 179) rfl)
theorem kw_900 : (Jvm.Cond.lays "ContractLoadersModel" "ContractLoadersModel" "steps" "I") ∈ wsG := xg_tab (xc4 (List.mem_of_getElem? (i := 180) rfl)) rfl
theorem kw_901 : (Jvm.Cond.soleField "ContractLoadersModel" "steps") ∈ tables_1 := xc4 (List.mem_of_getElem? (i := 181) rfl)
theorem kw_902 : (Jvm.Cond.lays "ContractLoadersModel" "ContractLoadersModel" "failure" "I") ∈ wsG := xg_tab (xc4 (List.mem_of_getElem? (i := 182) rfl)) rfl
theorem kw_903 : (Jvm.Cond.soleField "ContractLoadersModel" "failure") ∈ tables_1 := xc4 (List.mem_of_getElem? (i := 183) rfl)
theorem kw_904 : (Jvm.Cond.lays "ContractLoadersModel" "ContractLoadersModel" "value" "J") ∈ wsG := xg_tab (xc4 (List.mem_of_getElem? (i := 184) rfl)) rfl
theorem kw_905 : (Jvm.Cond.soleField "ContractLoadersModel" "value") ∈ tables_1 := xc4 (List.mem_of_getElem? (i := 185) rfl)
theorem kw_906 : (Jvm.Cond.laysFinal "ContractLoadersModel" "ContractLoadersModel" "before" "[J") ∈ wsG := xg_tab (xc4 (List.mem_of_getElem? (i := 186) rfl)) rfl
theorem kw_907 : (Jvm.Cond.soleField "ContractLoadersModel" "before") ∈ tables_1 := xc4 (List.mem_of_getElem? (i := 187) rfl)
theorem kw_908 : (Jvm.Cond.lays "ContractLoadersModel" "ContractLoadersModel" "latest" "J") ∈ wsG := xg_tab (xc4 (List.mem_of_getElem? (i := 188) rfl)) rfl
theorem kw_909 : (Jvm.Cond.soleField "ContractLoadersModel" "latest") ∈ tables_1 := xc4 (List.mem_of_getElem? (i := 189) rfl)
theorem kw_910 : (Jvm.Cond.superclass "ContractLoadersModel" "java/lang/Object") ∈ tables_1 := xc4 (List.mem_of_getElem? (i := 190) rfl)
theorem kw_911 : (Jvm.Cond.arrayClass Jvm.ClassFile.FieldType.boolean) ∈ wsG := xg_tab (xc4 (List.mem_of_getElem? (i := 191) rfl)) rfl
theorem kw_912 : (Jvm.Cond.methodLink "ContractLoadersLaw" (91 : Nat) ({ cls := "ContractLoadersModel", name := "thrown", desc := "()I" } : Jvm.MethodName)) ∈ wsG := xg_tab (xc4 (List.mem_of_getElem? (i := 192) rfl)) rfl
theorem kw_913 : (Jvm.Cond.instanceMethod ({ cls := "ContractLoadersModel", name := "thrown", desc := "()I" } : Jvm.MethodName)) ∈ wsG := xg_tab (xc4 (List.mem_of_getElem? (i := 193) rfl)) rfl
theorem kw_914 : (Jvm.Cond.selects "ContractLoadersModel" ({ cls := "ContractLoadersModel", name := "thrown", desc := "()I" } : Jvm.MethodName) ({ cls := "ContractLoadersModel", name := "thrown", desc := "()I" } : Jvm.MethodName)) ∈ wsG := xg_tab (xc4 (List.mem_of_getElem? (i := 194) rfl)) rfl
theorem kw_915 : (Jvm.Cond.code ({ cls := "ContractLoadersModel", name := "thrown", desc := "()I" } : Jvm.MethodName) prog_11_method_2_code (1 : Nat) (Option.some Jvm.ClassFile.FieldType.int)) ∈ wsG := xg_tab (xc4 (List.mem_of_getElem? (i := 195) rfl)) rfl
theorem kw_916 : (Jvm.Cond.methodLink "ContractLoadersLaw" (23 : Nat) ({ cls := "ContractLoadersModel", name := "file", desc := "(IIZZI)I" } : Jvm.MethodName)) ∈ wsG := xg_tab (xc4 (List.mem_of_getElem? (i := 196) rfl)) rfl
theorem kw_917 : (Jvm.Cond.instanceMethod ({ cls := "ContractLoadersModel", name := "file", desc := "(IIZZI)I" } : Jvm.MethodName)) ∈ wsG := xg_tab (xc4 (List.mem_of_getElem? (i := 197) rfl)) rfl
theorem kw_918 : (Jvm.Cond.selects "ContractLoadersModel" ({ cls := "ContractLoadersModel", name := "file", desc := "(IIZZI)I" } : Jvm.MethodName) ({ cls := "ContractLoadersModel", name := "file", desc := "(IIZZI)I" } : Jvm.MethodName)) ∈ wsG := xg_tab (xc4 (List.mem_of_getElem? (i := 198) rfl)) rfl
theorem kw_919 : (Jvm.Cond.code ({ cls := "ContractLoadersModel", name := "file", desc := "(IIZZI)I" } : Jvm.MethodName) prog_11_method_7_code (6 : Nat) (Option.some Jvm.ClassFile.FieldType.int)) ∈ wsG := xg_tab (xc4 (List.mem_of_getElem? (i := 199) rfl)) rfl
theorem kw_920 : (Jvm.Cond.methodLink "ContractLoadersModel" (140 : Nat) ({ cls := "ContractLoadersModel", name := "isName", desc := "(I)Z" } : Jvm.MethodName)) ∈ wsG := xg_tab (xc4 (List.mem_of_getElem? (i := 200) rfl)) rfl
theorem kw_921 : (Jvm.Cond.static ({ cls := "ContractLoadersModel", name := "isName", desc := "(I)Z" } : Jvm.MethodName)) ∈ wsG := xg_tab (xc4 (List.mem_of_getElem? (i := 201) rfl)) rfl
theorem kw_922 : (Jvm.Cond.code ({ cls := "ContractLoadersModel", name := "isName", desc := "(I)Z" } : Jvm.MethodName) prog_11_method_4_code (1 : Nat) (Option.some Jvm.ClassFile.FieldType.boolean)) ∈ wsG := xg_tab (xc4 (List.mem_of_getElem? (i := 202) rfl)) rfl
theorem kw_923 : (Jvm.Cond.constantLong "ContractLoadersModel" (131 : Nat) (29 : Int64)) ∈ wsG := xg_tab (xc4 (List.mem_of_getElem? (i := 203) rfl)) rfl
theorem kw_924 : (Jvm.Cond.methodLink "ContractLoadersModel" (133 : Nat) ({ cls := "ContractLoadersModel", name := "in", desc := "(JJJ)Z" } : Jvm.MethodName)) ∈ wsG := xg_tab (xc4 (List.mem_of_getElem? (i := 204) rfl)) rfl
theorem kw_925 : (Jvm.Cond.static ({ cls := "ContractLoadersModel", name := "in", desc := "(JJJ)Z" } : Jvm.MethodName)) ∈ wsG := xg_tab (xc4 (List.mem_of_getElem? (i := 205) rfl)) rfl
theorem kw_926 : (Jvm.Cond.code ({ cls := "ContractLoadersModel", name := "in", desc := "(JJJ)Z" } : Jvm.MethodName) prog_11_method_3_code (6 : Nat) (Option.some Jvm.ClassFile.FieldType.boolean)) ∈ wsG := xg_tab (xc4 (List.mem_of_getElem? (i := 206) rfl)) rfl
theorem kw_927 : (Jvm.Cond.constantLong "ContractLoadersModel" (144 : Nat) (3 : Int64)) ∈ wsG := xg_tab (xc4 (List.mem_of_getElem? (i := 207) rfl)) rfl
theorem kw_928 : (Jvm.Cond.methodLink "ContractLoadersLaw" (28 : Nat) ({ cls := "ContractLoadersModel", name := "under", desc := "(II)I" } : Jvm.MethodName)) ∈ wsG := xg_tab (xc4 (List.mem_of_getElem? (i := 208) rfl)) rfl
theorem kw_929 : (Jvm.Cond.instanceMethod ({ cls := "ContractLoadersModel", name := "under", desc := "(II)I" } : Jvm.MethodName)) ∈ wsG := xg_tab (xc4 (List.mem_of_getElem? (i := 209) rfl)) rfl
theorem kw_930 : (Jvm.Cond.selects "ContractLoadersModel" ({ cls := "ContractLoadersModel", name := "under", desc := "(II)I" } : Jvm.MethodName) ({ cls := "ContractLoadersModel", name := "under", desc := "(II)I" } : Jvm.MethodName)) ∈ wsG := xg_tab (xc4 (List.mem_of_getElem? (i := 210) rfl)) rfl
theorem kw_931 : (Jvm.Cond.code ({ cls := "ContractLoadersModel", name := "under", desc := "(II)I" } : Jvm.MethodName) prog_11_method_9_code (3 : Nat) (Option.some Jvm.ClassFile.FieldType.int)) ∈ wsG := xg_tab (xc4 (List.mem_of_getElem? (i := 211) rfl)) rfl
theorem kw_932 : (Jvm.Cond.methodLink "ContractLoadersModel" (146 : Nat) ({ cls := "ContractLoadersModel", name := "isFile", desc := "(I)Z" } : Jvm.MethodName)) ∈ wsG := xg_tab (xc4 (List.mem_of_getElem? (i := 212) rfl)) rfl
theorem kw_933 : (Jvm.Cond.privateMethod ({ cls := "ContractLoadersModel", name := "isFile", desc := "(I)Z" } : Jvm.MethodName)) ∈ tables_1 := xc4 (List.mem_of_getElem? (i := 213) rfl)
theorem kw_934 : (Jvm.Cond.instanceMethod ({ cls := "ContractLoadersModel", name := "isFile", desc := "(I)Z" } : Jvm.MethodName)) ∈ wsG := xg_tab (xc4 (List.mem_of_getElem? (i := 214) rfl)) rfl
theorem kw_935 : (Jvm.Cond.code ({ cls := "ContractLoadersModel", name := "isFile", desc := "(I)Z" } : Jvm.MethodName) prog_11_method_6_code (2 : Nat) (Option.some Jvm.ClassFile.FieldType.boolean)) ∈ wsG := xg_tab (xc4 (List.mem_of_getElem? (i := 215) rfl)) rfl
theorem kw_936 : (Jvm.Cond.methodLink "ContractLoadersModel" (149 : Nat) ({ cls := "ContractLoadersModel", name := "isOffered", desc := "(I)Z" } : Jvm.MethodName)) ∈ wsG := xg_tab (xc4 (List.mem_of_getElem? (i := 216) rfl)) rfl
theorem kw_937 : (Jvm.Cond.privateMethod ({ cls := "ContractLoadersModel", name := "isOffered", desc := "(I)Z" } : Jvm.MethodName)) ∈ tables_1 := xc4 (List.mem_of_getElem? (i := 217) rfl)
theorem kw_938 : (Jvm.Cond.instanceMethod ({ cls := "ContractLoadersModel", name := "isOffered", desc := "(I)Z" } : Jvm.MethodName)) ∈ wsG := xg_tab (xc4 (List.mem_of_getElem? (i := 218) rfl)) rfl
theorem kw_939 : (Jvm.Cond.code ({ cls := "ContractLoadersModel", name := "isOffered", desc := "(I)Z" } : Jvm.MethodName) prog_11_method_8_code (4 : Nat) (Option.some Jvm.ClassFile.FieldType.boolean)) ∈ wsG := xg_tab (xc4 (List.mem_of_getElem? (i := 219) rfl)) rfl
theorem kw_940 : (Jvm.Cond.methodLink "ContractLoadersLaw" (33 : Nat) ({ cls := "ContractLoadersModel", name := "act", desc := "(IIIII)I" } : Jvm.MethodName)) ∈ wsG := xg_tab (xc4 (List.mem_of_getElem? (i := 220) rfl)) rfl
theorem kw_941 : (Jvm.Cond.instanceMethod ({ cls := "ContractLoadersModel", name := "act", desc := "(IIIII)I" } : Jvm.MethodName)) ∈ wsG := xg_tab (xc4 (List.mem_of_getElem? (i := 221) rfl)) rfl
theorem kw_942 : (Jvm.Cond.selects "ContractLoadersModel" ({ cls := "ContractLoadersModel", name := "act", desc := "(IIIII)I" } : Jvm.MethodName) ({ cls := "ContractLoadersModel", name := "act", desc := "(IIIII)I" } : Jvm.MethodName)) ∈ wsG := xg_tab (xc4 (List.mem_of_getElem? (i := 222) rfl)) rfl
theorem kw_943 : (Jvm.Cond.code ({ cls := "ContractLoadersModel", name := "act", desc := "(IIIII)I" } : Jvm.MethodName) prog_11_method_10_code (9 : Nat) (Option.some Jvm.ClassFile.FieldType.int)) ∈ wsG := xg_tab (xc4 (List.mem_of_getElem? (i := 223) rfl)) rfl
theorem kw_944 : (Jvm.Cond.constantLong "ContractLoadersModel" (152 : Nat) (2 : Int64)) ∈ wsG := xg_tab (xc4 (List.mem_of_getElem? (i := 224) rfl)) rfl
theorem kw_945 : (Jvm.Cond.constantLong "ContractLoadersModel" (154 : Nat) (11 : Int64)) ∈ wsG := xg_tab (xc4 (List.mem_of_getElem? (i := 225) rfl)) rfl
theorem kw_946 : (Jvm.Cond.constantLong "ContractLoadersModel" (156 : Nat) (9 : Int64)) ∈ wsG := xg_tab (xc4 (List.mem_of_getElem? (i := 226) rfl)) rfl
theorem kw_947 : (Jvm.Cond.constantLong "ContractLoadersModel" (158 : Nat) (89 : Int64)) ∈ wsG := xg_tab (xc4 (List.mem_of_getElem? (i := 227) rfl)) rfl
theorem kw_948 : (Jvm.Cond.methodLink "ContractLoadersLaw" (38 : Nat) ({ cls := "ContractLoadersModel", name := "loader", desc := "(I)I" } : Jvm.MethodName)) ∈ wsG := xg_tab (xc4 (List.mem_of_getElem? (i := 228) rfl)) rfl
theorem kw_949 : (Jvm.Cond.instanceMethod ({ cls := "ContractLoadersModel", name := "loader", desc := "(I)I" } : Jvm.MethodName)) ∈ wsG := xg_tab (xc4 (List.mem_of_getElem? (i := 229) rfl)) rfl
theorem kw_950 : (Jvm.Cond.selects "ContractLoadersModel" ({ cls := "ContractLoadersModel", name := "loader", desc := "(I)I" } : Jvm.MethodName) ({ cls := "ContractLoadersModel", name := "loader", desc := "(I)I" } : Jvm.MethodName)) ∈ wsG := xg_tab (xc4 (List.mem_of_getElem? (i := 230) rfl)) rfl
theorem kw_951 : (Jvm.Cond.code ({ cls := "ContractLoadersModel", name := "loader", desc := "(I)I" } : Jvm.MethodName) prog_11_method_11_code (2 : Nat) (Option.some Jvm.ClassFile.FieldType.int)) ∈ wsG := xg_tab (xc4 (List.mem_of_getElem? (i := 231) rfl)) rfl
theorem kw_952 : (Jvm.Cond.methodLink "ContractLoadersModel" (160 : Nat) ({ cls := "ContractLoadersModel", name := "isLoader", desc := "(I)Z" } : Jvm.MethodName)) ∈ wsG := xg_tab (xc4 (List.mem_of_getElem? (i := 232) rfl)) rfl
theorem kw_953 : (Jvm.Cond.privateMethod ({ cls := "ContractLoadersModel", name := "isLoader", desc := "(I)Z" } : Jvm.MethodName)) ∈ tables_1 := xc4 (List.mem_of_getElem? (i := 233) rfl)
theorem kw_954 : (Jvm.Cond.instanceMethod ({ cls := "ContractLoadersModel", name := "isLoader", desc := "(I)Z" } : Jvm.MethodName)) ∈ wsG := xg_tab (xc4 (List.mem_of_getElem? (i := 234) rfl)) rfl
theorem kw_955 : (Jvm.Cond.code ({ cls := "ContractLoadersModel", name := "isLoader", desc := "(I)Z" } : Jvm.MethodName) prog_11_method_5_code (2 : Nat) (Option.some Jvm.ClassFile.FieldType.boolean)) ∈ wsG := xg_tab (xc4 (List.mem_of_getElem? (i := 235) rfl)) rfl
theorem kw_956 : (Jvm.Cond.methodLink "ContractLoadersLaw" (43 : Nat) ({ cls := "ContractLoadersModel", name := "offer", desc := "(III)I" } : Jvm.MethodName)) ∈ wsG := xg_tab (xc4 (List.mem_of_getElem? (i := 236) rfl)) rfl
theorem kw_957 : (Jvm.Cond.instanceMethod ({ cls := "ContractLoadersModel", name := "offer", desc := "(III)I" } : Jvm.MethodName)) ∈ wsG := xg_tab (xc4 (List.mem_of_getElem? (i := 237) rfl)) rfl
theorem kw_958 : (Jvm.Cond.selects "ContractLoadersModel" ({ cls := "ContractLoadersModel", name := "offer", desc := "(III)I" } : Jvm.MethodName) ({ cls := "ContractLoadersModel", name := "offer", desc := "(III)I" } : Jvm.MethodName)) ∈ wsG := xg_tab (xc4 (List.mem_of_getElem? (i := 238) rfl)) rfl
theorem kw_959 : (Jvm.Cond.code ({ cls := "ContractLoadersModel", name := "offer", desc := "(III)I" } : Jvm.MethodName) prog_11_method_12_code (4 : Nat) (Option.some Jvm.ClassFile.FieldType.int)) ∈ wsG := xg_tab (xc4 (List.mem_of_getElem? (i := 239) rfl)) rfl
theorem kw_960 : (Jvm.Cond.methodLink "ContractLoadersLaw" (47 : Nat) ({ cls := "ContractLoadersModel", name := "find", desc := "(II)I" } : Jvm.MethodName)) ∈ wsG := xg_tab (xc5 (List.mem_of_getElem? (i := 0) rfl)) rfl
theorem kw_961 : (Jvm.Cond.instanceMethod ({ cls := "ContractLoadersModel", name := "find", desc := "(II)I" } : Jvm.MethodName)) ∈ wsG := xg_tab (xc5 (List.mem_of_getElem? (i := 1) rfl)) rfl
theorem kw_962 : (Jvm.Cond.selects "ContractLoadersModel" ({ cls := "ContractLoadersModel", name := "find", desc := "(II)I" } : Jvm.MethodName) ({ cls := "ContractLoadersModel", name := "find", desc := "(II)I" } : Jvm.MethodName)) ∈ wsG := xg_tab (xc5 (List.mem_of_getElem? (i := 2) rfl)) rfl
theorem kw_963 : (Jvm.Cond.code ({ cls := "ContractLoadersModel", name := "find", desc := "(II)I" } : Jvm.MethodName) prog_11_method_25_code (3 : Nat) (Option.some Jvm.ClassFile.FieldType.int)) ∈ wsG := xg_tab (xc5 (List.mem_of_getElem? (i := 3) rfl)) rfl
theorem kw_964 : (Jvm.Cond.methodLink "ContractLoadersModel" (204 : Nat) ({ cls := "ContractLoadersModel", name := "findOne", desc := "(II)I" } : Jvm.MethodName)) ∈ wsG := xg_tab (xc5 (List.mem_of_getElem? (i := 4) rfl)) rfl
theorem kw_965 : (Jvm.Cond.privateMethod ({ cls := "ContractLoadersModel", name := "findOne", desc := "(II)I" } : Jvm.MethodName)) ∈ tables_1 := xc5 (List.mem_of_getElem? (i := 5) rfl)
theorem kw_966 : (Jvm.Cond.instanceMethod ({ cls := "ContractLoadersModel", name := "findOne", desc := "(II)I" } : Jvm.MethodName)) ∈ wsG := xg_tab (xc5 (List.mem_of_getElem? (i := 6) rfl)) rfl
theorem kw_967 : (Jvm.Cond.code ({ cls := "ContractLoadersModel", name := "findOne", desc := "(II)I" } : Jvm.MethodName) prog_11_method_23_code (3 : Nat) (Option.some Jvm.ClassFile.FieldType.int)) ∈ wsG := xg_tab (xc5 (List.mem_of_getElem? (i := 7) rfl)) rfl
theorem kw_968 : (Jvm.Cond.methodLink "ContractLoadersModel" (200 : Nat) ({ cls := "ContractLoadersModel", name := "findFrom", desc := "(III)I" } : Jvm.MethodName)) ∈ wsG := xg_tab (xc5 (List.mem_of_getElem? (i := 8) rfl)) rfl
theorem kw_969 : (Jvm.Cond.privateMethod ({ cls := "ContractLoadersModel", name := "findFrom", desc := "(III)I" } : Jvm.MethodName)) ∈ tables_1 := xc5 (List.mem_of_getElem? (i := 9) rfl)
theorem kw_970 : (Jvm.Cond.instanceMethod ({ cls := "ContractLoadersModel", name := "findFrom", desc := "(III)I" } : Jvm.MethodName)) ∈ wsG := xg_tab (xc5 (List.mem_of_getElem? (i := 10) rfl)) rfl
theorem kw_971 : (Jvm.Cond.code ({ cls := "ContractLoadersModel", name := "findFrom", desc := "(III)I" } : Jvm.MethodName) prog_11_method_17_code (6 : Nat) (Option.some Jvm.ClassFile.FieldType.int)) ∈ wsG := xg_tab (xc5 (List.mem_of_getElem? (i := 11) rfl)) rfl
theorem kw_972 : (Jvm.Cond.methodLink "ContractLoadersModel" (173 : Nat) ({ cls := "ContractLoadersModel", name := "look", desc := "(III)V" } : Jvm.MethodName)) ∈ wsG := xg_tab (xc5 (List.mem_of_getElem? (i := 12) rfl)) rfl
theorem kw_973 : (Jvm.Cond.privateMethod ({ cls := "ContractLoadersModel", name := "look", desc := "(III)V" } : Jvm.MethodName)) ∈ tables_1 := xc5 (List.mem_of_getElem? (i := 13) rfl)
theorem kw_974 : (Jvm.Cond.instanceMethod ({ cls := "ContractLoadersModel", name := "look", desc := "(III)V" } : Jvm.MethodName)) ∈ wsG := xg_tab (xc5 (List.mem_of_getElem? (i := 14) rfl)) rfl
theorem kw_975 : (Jvm.Cond.code ({ cls := "ContractLoadersModel", name := "look", desc := "(III)V" } : Jvm.MethodName) prog_11_method_14_code (4 : Nat) (Option.none : Option Jvm.ClassFile.FieldType)) ∈ wsG := xg_tab (xc5 (List.mem_of_getElem? (i := 15) rfl)) rfl
theorem kw_976 : (Jvm.Cond.methodLink "ContractLoadersModel" (177 : Nat) ({ cls := "ContractLoadersModel", name := "first", desc := "(II)V" } : Jvm.MethodName)) ∈ wsG := xg_tab (xc5 (List.mem_of_getElem? (i := 16) rfl)) rfl
theorem kw_977 : (Jvm.Cond.privateMethod ({ cls := "ContractLoadersModel", name := "first", desc := "(II)V" } : Jvm.MethodName)) ∈ tables_1 := xc5 (List.mem_of_getElem? (i := 17) rfl)
theorem kw_978 : (Jvm.Cond.instanceMethod ({ cls := "ContractLoadersModel", name := "first", desc := "(II)V" } : Jvm.MethodName)) ∈ wsG := xg_tab (xc5 (List.mem_of_getElem? (i := 18) rfl)) rfl
theorem kw_979 : (Jvm.Cond.code ({ cls := "ContractLoadersModel", name := "first", desc := "(II)V" } : Jvm.MethodName) prog_11_method_18_code (4 : Nat) (Option.none : Option Jvm.ClassFile.FieldType)) ∈ wsG := xg_tab (xc5 (List.mem_of_getElem? (i := 19) rfl)) rfl
theorem kw_980 : (Jvm.Cond.methodLink "ContractLoadersModel" (169 : Nat) ({ cls := "ContractLoadersModel", name := "gives", desc := "(I)V" } : Jvm.MethodName)) ∈ wsG := xg_tab (xc5 (List.mem_of_getElem? (i := 20) rfl)) rfl
theorem kw_981 : (Jvm.Cond.privateMethod ({ cls := "ContractLoadersModel", name := "gives", desc := "(I)V" } : Jvm.MethodName)) ∈ tables_1 := xc5 (List.mem_of_getElem? (i := 21) rfl)
theorem kw_982 : (Jvm.Cond.instanceMethod ({ cls := "ContractLoadersModel", name := "gives", desc := "(I)V" } : Jvm.MethodName)) ∈ wsG := xg_tab (xc5 (List.mem_of_getElem? (i := 22) rfl)) rfl
theorem kw_983 : (Jvm.Cond.code ({ cls := "ContractLoadersModel", name := "gives", desc := "(I)V" } : Jvm.MethodName) prog_11_method_15_code (2 : Nat) (Option.none : Option Jvm.ClassFile.FieldType)) ∈ wsG := xg_tab (xc5 (List.mem_of_getElem? (i := 23) rfl)) rfl
theorem kw_984 : (Jvm.Cond.methodLink "ContractLoadersModel" (181 : Nat) ({ cls := "ContractLoadersModel", name := "begin", desc := "(II)V" } : Jvm.MethodName)) ∈ wsG := xg_tab (xc5 (List.mem_of_getElem? (i := 24) rfl)) rfl
theorem kw_985 : (Jvm.Cond.privateMethod ({ cls := "ContractLoadersModel", name := "begin", desc := "(II)V" } : Jvm.MethodName)) ∈ tables_1 := xc5 (List.mem_of_getElem? (i := 25) rfl)
theorem kw_986 : (Jvm.Cond.instanceMethod ({ cls := "ContractLoadersModel", name := "begin", desc := "(II)V" } : Jvm.MethodName)) ∈ wsG := xg_tab (xc5 (List.mem_of_getElem? (i := 26) rfl)) rfl
theorem kw_987 : (Jvm.Cond.code ({ cls := "ContractLoadersModel", name := "begin", desc := "(II)V" } : Jvm.MethodName) prog_11_method_19_code (7 : Nat) (Option.none : Option Jvm.ClassFile.FieldType)) ∈ wsG := xg_tab (xc5 (List.mem_of_getElem? (i := 27) rfl)) rfl
theorem kw_988 : (Jvm.Cond.methodLink "ContractLoadersModel" (184 : Nat) ({ cls := "ContractLoadersModel", name := "takeSuper", desc := "(II)V" } : Jvm.MethodName)) ∈ wsG := xg_tab (xc5 (List.mem_of_getElem? (i := 28) rfl)) rfl
theorem kw_989 : (Jvm.Cond.privateMethod ({ cls := "ContractLoadersModel", name := "takeSuper", desc := "(II)V" } : Jvm.MethodName)) ∈ tables_1 := xc5 (List.mem_of_getElem? (i := 29) rfl)
theorem kw_990 : (Jvm.Cond.instanceMethod ({ cls := "ContractLoadersModel", name := "takeSuper", desc := "(II)V" } : Jvm.MethodName)) ∈ wsG := xg_tab (xc5 (List.mem_of_getElem? (i := 30) rfl)) rfl
theorem kw_991 : (Jvm.Cond.code ({ cls := "ContractLoadersModel", name := "takeSuper", desc := "(II)V" } : Jvm.MethodName) prog_11_method_21_code (4 : Nat) (Option.none : Option Jvm.ClassFile.FieldType)) ∈ wsG := xg_tab (xc5 (List.mem_of_getElem? (i := 31) rfl)) rfl
theorem kw_992 : (Jvm.Cond.methodLink "ContractLoadersModel" (190 : Nat) ({ cls := "ContractLoadersModel", name := "aboveMany", desc := "(I)I" } : Jvm.MethodName)) ∈ wsG := xg_tab (xc5 (List.mem_of_getElem? (i := 32) rfl)) rfl
theorem kw_993 : (Jvm.Cond.privateMethod ({ cls := "ContractLoadersModel", name := "aboveMany", desc := "(I)I" } : Jvm.MethodName)) ∈ tables_1 := xc5 (List.mem_of_getElem? (i := 33) rfl)
theorem kw_994 : (Jvm.Cond.instanceMethod ({ cls := "ContractLoadersModel", name := "aboveMany", desc := "(I)I" } : Jvm.MethodName)) ∈ wsG := xg_tab (xc5 (List.mem_of_getElem? (i := 34) rfl)) rfl
theorem kw_995 : (Jvm.Cond.code ({ cls := "ContractLoadersModel", name := "aboveMany", desc := "(I)I" } : Jvm.MethodName) prog_11_method_20_code (4 : Nat) (Option.some Jvm.ClassFile.FieldType.int)) ∈ wsG := xg_tab (xc5 (List.mem_of_getElem? (i := 35) rfl)) rfl
theorem kw_996 : (Jvm.Cond.methodLink "ContractLoadersModel" (194 : Nat) ({ cls := "ContractLoadersModel", name := "fails", desc := "(II)V" } : Jvm.MethodName)) ∈ wsG := xg_tab (xc5 (List.mem_of_getElem? (i := 36) rfl)) rfl
theorem kw_997 : (Jvm.Cond.privateMethod ({ cls := "ContractLoadersModel", name := "fails", desc := "(II)V" } : Jvm.MethodName)) ∈ tables_1 := xc5 (List.mem_of_getElem? (i := 37) rfl)
theorem kw_998 : (Jvm.Cond.instanceMethod ({ cls := "ContractLoadersModel", name := "fails", desc := "(II)V" } : Jvm.MethodName)) ∈ wsG := xg_tab (xc5 (List.mem_of_getElem? (i := 38) rfl)) rfl
theorem kw_999 : (Jvm.Cond.code ({ cls := "ContractLoadersModel", name := "fails", desc := "(II)V" } : Jvm.MethodName) prog_11_method_16_code (3 : Nat) (Option.none : Option Jvm.ClassFile.FieldType)) ∈ wsG := xg_tab (xc5 (List.mem_of_getElem? (i := 39) rfl)) rfl
theorem kw_1000 : (Jvm.Cond.methodLink "ContractLoadersModel" (187 : Nat) ({ cls := "ContractLoadersModel", name := "takeFace", desc := "(II)V" } : Jvm.MethodName)) ∈ wsG := xg_tab (xc5 (List.mem_of_getElem? (i := 40) rfl)) rfl
theorem kw_1001 : (Jvm.Cond.privateMethod ({ cls := "ContractLoadersModel", name := "takeFace", desc := "(II)V" } : Jvm.MethodName)) ∈ tables_1 := xc5 (List.mem_of_getElem? (i := 41) rfl)
theorem kw_1002 : (Jvm.Cond.instanceMethod ({ cls := "ContractLoadersModel", name := "takeFace", desc := "(II)V" } : Jvm.MethodName)) ∈ wsG := xg_tab (xc5 (List.mem_of_getElem? (i := 42) rfl)) rfl
theorem kw_1003 : (Jvm.Cond.code ({ cls := "ContractLoadersModel", name := "takeFace", desc := "(II)V" } : Jvm.MethodName) prog_11_method_22_code (6 : Nat) (Option.none : Option Jvm.ClassFile.FieldType)) ∈ wsG := xg_tab (xc5 (List.mem_of_getElem? (i := 43) rfl)) rfl
theorem kw_1004 : (Jvm.Cond.methodLink "ContractLoadersModel" (208 : Nat) ({ cls := "ContractLoadersModel", name := "told", desc := "(I)I" } : Jvm.MethodName)) ∈ wsG := xg_tab (xc5 (List.mem_of_getElem? (i := 44) rfl)) rfl
theorem kw_1005 : (Jvm.Cond.static ({ cls := "ContractLoadersModel", name := "told", desc := "(I)I" } : Jvm.MethodName)) ∈ wsG := xg_tab (xc5 (List.mem_of_getElem? (i := 45) rfl)) rfl
theorem kw_1006 : (Jvm.Cond.code ({ cls := "ContractLoadersModel", name := "told", desc := "(I)I" } : Jvm.MethodName) prog_11_method_24_code (1 : Nat) (Option.some Jvm.ClassFile.FieldType.int)) ∈ wsG := xg_tab (xc5 (List.mem_of_getElem? (i := 46) rfl)) rfl
theorem kw_1007 : (Jvm.Cond.methodLink "ContractLoadersLaw" (51 : Nat) ({ cls := "ContractLoadersModel", name := "define", desc := "(II)I" } : Jvm.MethodName)) ∈ wsG := xg_tab (xc5 (List.mem_of_getElem? (i := 47) rfl)) rfl
theorem kw_1008 : (Jvm.Cond.instanceMethod ({ cls := "ContractLoadersModel", name := "define", desc := "(II)I" } : Jvm.MethodName)) ∈ wsG := xg_tab (xc5 (List.mem_of_getElem? (i := 48) rfl)) rfl
theorem kw_1009 : (Jvm.Cond.selects "ContractLoadersModel" ({ cls := "ContractLoadersModel", name := "define", desc := "(II)I" } : Jvm.MethodName) ({ cls := "ContractLoadersModel", name := "define", desc := "(II)I" } : Jvm.MethodName)) ∈ wsG := xg_tab (xc5 (List.mem_of_getElem? (i := 49) rfl)) rfl
theorem kw_1010 : (Jvm.Cond.code ({ cls := "ContractLoadersModel", name := "define", desc := "(II)I" } : Jvm.MethodName) prog_11_method_26_code (3 : Nat) (Option.some Jvm.ClassFile.FieldType.int)) ∈ wsG := xg_tab (xc5 (List.mem_of_getElem? (i := 50) rfl)) rfl
theorem kw_1011 : (Jvm.Cond.methodLink "ContractLoadersLaw" (55 : Nat) ({ cls := "ContractLoadersModel", name := "release", desc := "(I)I" } : Jvm.MethodName)) ∈ wsG := xg_tab (xc5 (List.mem_of_getElem? (i := 51) rfl)) rfl
theorem kw_1012 : (Jvm.Cond.instanceMethod ({ cls := "ContractLoadersModel", name := "release", desc := "(I)I" } : Jvm.MethodName)) ∈ wsG := xg_tab (xc5 (List.mem_of_getElem? (i := 52) rfl)) rfl
theorem kw_1013 : (Jvm.Cond.selects "ContractLoadersModel" ({ cls := "ContractLoadersModel", name := "release", desc := "(I)I" } : Jvm.MethodName) ({ cls := "ContractLoadersModel", name := "release", desc := "(I)I" } : Jvm.MethodName)) ∈ wsG := xg_tab (xc5 (List.mem_of_getElem? (i := 53) rfl)) rfl
theorem kw_1014 : (Jvm.Cond.code ({ cls := "ContractLoadersModel", name := "release", desc := "(I)I" } : Jvm.MethodName) prog_11_method_28_code (2 : Nat) (Option.some Jvm.ClassFile.FieldType.int)) ∈ wsG := xg_tab (xc5 (List.mem_of_getElem? (i := 54) rfl)) rfl
theorem kw_1015 : (Jvm.Cond.methodLink "ContractLoadersModel" (215 : Nat) ({ cls := "ContractLoadersModel", name := "letGo", desc := "(I)I" } : Jvm.MethodName)) ∈ wsG := xg_tab (xc5 (List.mem_of_getElem? (i := 55) rfl)) rfl
theorem kw_1016 : (Jvm.Cond.privateMethod ({ cls := "ContractLoadersModel", name := "letGo", desc := "(I)I" } : Jvm.MethodName)) ∈ tables_1 := xc5 (List.mem_of_getElem? (i := 56) rfl)
theorem kw_1017 : (Jvm.Cond.instanceMethod ({ cls := "ContractLoadersModel", name := "letGo", desc := "(I)I" } : Jvm.MethodName)) ∈ wsG := xg_tab (xc5 (List.mem_of_getElem? (i := 57) rfl)) rfl
theorem kw_1018 : (Jvm.Cond.code ({ cls := "ContractLoadersModel", name := "letGo", desc := "(I)I" } : Jvm.MethodName) prog_11_method_27_code (6 : Nat) (Option.some Jvm.ClassFile.FieldType.int)) ∈ wsG := xg_tab (xc5 (List.mem_of_getElem? (i := 58) rfl)) rfl
theorem kw_1019 : (Jvm.Cond.methodLink "ContractLoadersModel" (211 : Nat) ({ cls := "ContractLoadersModel", name := "isLoaderBelow", desc := "(II)Z" } : Jvm.MethodName)) ∈ wsG := xg_tab (xc5 (List.mem_of_getElem? (i := 59) rfl)) rfl
theorem kw_1020 : (Jvm.Cond.privateMethod ({ cls := "ContractLoadersModel", name := "isLoaderBelow", desc := "(II)Z" } : Jvm.MethodName)) ∈ tables_1 := xc5 (List.mem_of_getElem? (i := 60) rfl)
theorem kw_1021 : (Jvm.Cond.instanceMethod ({ cls := "ContractLoadersModel", name := "isLoaderBelow", desc := "(II)Z" } : Jvm.MethodName)) ∈ wsG := xg_tab (xc5 (List.mem_of_getElem? (i := 61) rfl)) rfl
theorem kw_1022 : (Jvm.Cond.code ({ cls := "ContractLoadersModel", name := "isLoaderBelow", desc := "(II)Z" } : Jvm.MethodName) prog_11_method_13_code (4 : Nat) (Option.some Jvm.ClassFile.FieldType.boolean)) ∈ wsG := xg_tab (xc5 (List.mem_of_getElem? (i := 62) rfl)) rfl
theorem kw_1023 : (Jvm.Cond.methodLink "ContractLoadersLaw" (60 : Nat) ({ cls := "ContractLoadersModel", name := "below", desc := "(IIII)I" } : Jvm.MethodName)) ∈ wsG := xg_tab (xc5 (List.mem_of_getElem? (i := 63) rfl)) rfl
theorem kw_1024 : (Jvm.Cond.instanceMethod ({ cls := "ContractLoadersModel", name := "below", desc := "(IIII)I" } : Jvm.MethodName)) ∈ wsG := xg_tab (xc5 (List.mem_of_getElem? (i := 64) rfl)) rfl
theorem kw_1025 : (Jvm.Cond.selects "ContractLoadersModel" ({ cls := "ContractLoadersModel", name := "below", desc := "(IIII)I" } : Jvm.MethodName) ({ cls := "ContractLoadersModel", name := "below", desc := "(IIII)I" } : Jvm.MethodName)) ∈ wsG := xg_tab (xc5 (List.mem_of_getElem? (i := 65) rfl)) rfl
theorem kw_1026 : (Jvm.Cond.code ({ cls := "ContractLoadersModel", name := "below", desc := "(IIII)I" } : Jvm.MethodName) prog_11_method_30_code (7 : Nat) (Option.some Jvm.ClassFile.FieldType.int)) ∈ wsG := xg_tab (xc5 (List.mem_of_getElem? (i := 66) rfl)) rfl
theorem kw_1027 : (Jvm.Cond.methodLink "ContractLoadersModel" (218 : Nat) ({ cls := "ContractLoadersModel", name := "isBelow", desc := "(II)Z" } : Jvm.MethodName)) ∈ wsG := xg_tab (xc5 (List.mem_of_getElem? (i := 67) rfl)) rfl
theorem kw_1028 : (Jvm.Cond.privateMethod ({ cls := "ContractLoadersModel", name := "isBelow", desc := "(II)Z" } : Jvm.MethodName)) ∈ tables_1 := xc5 (List.mem_of_getElem? (i := 68) rfl)
theorem kw_1029 : (Jvm.Cond.instanceMethod ({ cls := "ContractLoadersModel", name := "isBelow", desc := "(II)Z" } : Jvm.MethodName)) ∈ wsG := xg_tab (xc5 (List.mem_of_getElem? (i := 69) rfl)) rfl
theorem kw_1030 : (Jvm.Cond.code ({ cls := "ContractLoadersModel", name := "isBelow", desc := "(II)Z" } : Jvm.MethodName) prog_11_method_29_code (8 : Nat) (Option.some Jvm.ClassFile.FieldType.boolean)) ∈ wsG := xg_tab (xc5 (List.mem_of_getElem? (i := 70) rfl)) rfl
theorem kw_1031 : (Jvm.Cond.methodLink "ContractLoadersLaw" (64 : Nat) ({ cls := "ContractLoadersModel", name := "deploy", desc := "(II)I" } : Jvm.MethodName)) ∈ wsG := xg_tab (xc5 (List.mem_of_getElem? (i := 71) rfl)) rfl
theorem kw_1032 : (Jvm.Cond.instanceMethod ({ cls := "ContractLoadersModel", name := "deploy", desc := "(II)I" } : Jvm.MethodName)) ∈ wsG := xg_tab (xc5 (List.mem_of_getElem? (i := 72) rfl)) rfl
theorem kw_1033 : (Jvm.Cond.selects "ContractLoadersModel" ({ cls := "ContractLoadersModel", name := "deploy", desc := "(II)I" } : Jvm.MethodName) ({ cls := "ContractLoadersModel", name := "deploy", desc := "(II)I" } : Jvm.MethodName)) ∈ wsG := xg_tab (xc5 (List.mem_of_getElem? (i := 73) rfl)) rfl
theorem kw_1034 : (Jvm.Cond.code ({ cls := "ContractLoadersModel", name := "deploy", desc := "(II)I" } : Jvm.MethodName) prog_11_method_33_code (4 : Nat) (Option.some Jvm.ClassFile.FieldType.int)) ∈ wsG := xg_tab (xc5 (List.mem_of_getElem? (i := 74) rfl)) rfl
theorem kw_1035 : (Jvm.Cond.methodLink "ContractLoadersModel" (224 : Nat) ({ cls := "ContractLoadersModel", name := "plain", desc := "(II)I" } : Jvm.MethodName)) ∈ wsG := xg_tab (xc5 (List.mem_of_getElem? (i := 75) rfl)) rfl
theorem kw_1036 : (Jvm.Cond.privateMethod ({ cls := "ContractLoadersModel", name := "plain", desc := "(II)I" } : Jvm.MethodName)) ∈ tables_1 := xc5 (List.mem_of_getElem? (i := 76) rfl)
theorem kw_1037 : (Jvm.Cond.instanceMethod ({ cls := "ContractLoadersModel", name := "plain", desc := "(II)I" } : Jvm.MethodName)) ∈ wsG := xg_tab (xc5 (List.mem_of_getElem? (i := 77) rfl)) rfl
theorem kw_1038 : (Jvm.Cond.code ({ cls := "ContractLoadersModel", name := "plain", desc := "(II)I" } : Jvm.MethodName) prog_11_method_32_code (4 : Nat) (Option.some Jvm.ClassFile.FieldType.int)) ∈ wsG := xg_tab (xc5 (List.mem_of_getElem? (i := 78) rfl)) rfl
theorem kw_1039 : (Jvm.Cond.methodLink "ContractLoadersLaw" (68 : Nat) ({ cls := "ContractLoadersModel", name := "upgrade", desc := "(III)I" } : Jvm.MethodName)) ∈ wsG := xg_tab (xc5 (List.mem_of_getElem? (i := 79) rfl)) rfl
theorem kw_1040 : (Jvm.Cond.instanceMethod ({ cls := "ContractLoadersModel", name := "upgrade", desc := "(III)I" } : Jvm.MethodName)) ∈ wsG := xg_tab (xc5 (List.mem_of_getElem? (i := 80) rfl)) rfl
theorem kw_1041 : (Jvm.Cond.selects "ContractLoadersModel" ({ cls := "ContractLoadersModel", name := "upgrade", desc := "(III)I" } : Jvm.MethodName) ({ cls := "ContractLoadersModel", name := "upgrade", desc := "(III)I" } : Jvm.MethodName)) ∈ wsG := xg_tab (xc5 (List.mem_of_getElem? (i := 81) rfl)) rfl
theorem kw_1042 : (Jvm.Cond.code ({ cls := "ContractLoadersModel", name := "upgrade", desc := "(III)I" } : Jvm.MethodName) prog_11_method_34_code (5 : Nat) (Option.some Jvm.ClassFile.FieldType.int)) ∈ wsG := xg_tab (xc5 (List.mem_of_getElem? (i := 82) rfl)) rfl
theorem kw_1043 : (Jvm.Cond.methodLink "ContractLoadersModel" (227 : Nat) ({ cls := "ContractLoadersModel", name := "isContract", desc := "(I)Z" } : Jvm.MethodName)) ∈ wsG := xg_tab (xc5 (List.mem_of_getElem? (i := 83) rfl)) rfl
theorem kw_1044 : (Jvm.Cond.privateMethod ({ cls := "ContractLoadersModel", name := "isContract", desc := "(I)Z" } : Jvm.MethodName)) ∈ tables_1 := xc5 (List.mem_of_getElem? (i := 84) rfl)
theorem kw_1045 : (Jvm.Cond.instanceMethod ({ cls := "ContractLoadersModel", name := "isContract", desc := "(I)Z" } : Jvm.MethodName)) ∈ wsG := xg_tab (xc5 (List.mem_of_getElem? (i := 85) rfl)) rfl
theorem kw_1046 : (Jvm.Cond.code ({ cls := "ContractLoadersModel", name := "isContract", desc := "(I)Z" } : Jvm.MethodName) prog_11_method_31_code (2 : Nat) (Option.some Jvm.ClassFile.FieldType.boolean)) ∈ wsG := xg_tab (xc5 (List.mem_of_getElem? (i := 86) rfl)) rfl
theorem kw_1047 : (Jvm.Cond.methodLink "ContractLoadersLaw" (72 : Nat) ({ cls := "ContractLoadersModel", name := "move", desc := "(IIII)I" } : Jvm.MethodName)) ∈ wsG := xg_tab (xc5 (List.mem_of_getElem? (i := 87) rfl)) rfl
theorem kw_1048 : (Jvm.Cond.instanceMethod ({ cls := "ContractLoadersModel", name := "move", desc := "(IIII)I" } : Jvm.MethodName)) ∈ wsG := xg_tab (xc5 (List.mem_of_getElem? (i := 88) rfl)) rfl
theorem kw_1049 : (Jvm.Cond.selects "ContractLoadersModel" ({ cls := "ContractLoadersModel", name := "move", desc := "(IIII)I" } : Jvm.MethodName) ({ cls := "ContractLoadersModel", name := "move", desc := "(IIII)I" } : Jvm.MethodName)) ∈ wsG := xg_tab (xc5 (List.mem_of_getElem? (i := 89) rfl)) rfl
theorem kw_1050 : (Jvm.Cond.code ({ cls := "ContractLoadersModel", name := "move", desc := "(IIII)I" } : Jvm.MethodName) prog_11_method_35_code (6 : Nat) (Option.some Jvm.ClassFile.FieldType.int)) ∈ wsG := xg_tab (xc5 (List.mem_of_getElem? (i := 90) rfl)) rfl
theorem kw_1051 : (Jvm.Cond.constantLong "ContractLoadersModel" (230 : Nat) (4 : Int64)) ∈ wsG := xg_tab (xc5 (List.mem_of_getElem? (i := 91) rfl)) rfl
theorem kw_1052 : (Jvm.Cond.methodLink "ContractLoadersLaw" (79 : Nat) ({ cls := "ContractLoadersModel", name := "call", desc := "(IIJ)I" } : Jvm.MethodName)) ∈ wsG := xg_tab (xc5 (List.mem_of_getElem? (i := 92) rfl)) rfl
theorem kw_1053 : (Jvm.Cond.instanceMethod ({ cls := "ContractLoadersModel", name := "call", desc := "(IIJ)I" } : Jvm.MethodName)) ∈ wsG := xg_tab (xc5 (List.mem_of_getElem? (i := 93) rfl)) rfl
theorem kw_1054 : (Jvm.Cond.selects "ContractLoadersModel" ({ cls := "ContractLoadersModel", name := "call", desc := "(IIJ)I" } : Jvm.MethodName) ({ cls := "ContractLoadersModel", name := "call", desc := "(IIJ)I" } : Jvm.MethodName)) ∈ wsG := xg_tab (xc5 (List.mem_of_getElem? (i := 94) rfl)) rfl
theorem kw_1055 : (Jvm.Cond.code ({ cls := "ContractLoadersModel", name := "call", desc := "(IIJ)I" } : Jvm.MethodName) prog_11_method_47_code (6 : Nat) (Option.some Jvm.ClassFile.FieldType.int)) ∈ wsG := xg_tab (xc5 (List.mem_of_getElem? (i := 95) rfl)) rfl
theorem kw_1056 : (Jvm.Cond.methodLink "ContractLoadersModel" (293 : Nat) ({ cls := "ContractLoadersModel", name := "enter", desc := "(IIJ)I" } : Jvm.MethodName)) ∈ wsG := xg_tab (xc5 (List.mem_of_getElem? (i := 96) rfl)) rfl
theorem kw_1057 : (Jvm.Cond.privateMethod ({ cls := "ContractLoadersModel", name := "enter", desc := "(IIJ)I" } : Jvm.MethodName)) ∈ tables_1 := xc5 (List.mem_of_getElem? (i := 97) rfl)
theorem kw_1058 : (Jvm.Cond.instanceMethod ({ cls := "ContractLoadersModel", name := "enter", desc := "(IIJ)I" } : Jvm.MethodName)) ∈ wsG := xg_tab (xc5 (List.mem_of_getElem? (i := 98) rfl)) rfl
theorem kw_1059 : (Jvm.Cond.code ({ cls := "ContractLoadersModel", name := "enter", desc := "(IIJ)I" } : Jvm.MethodName) prog_11_method_38_code (7 : Nat) (Option.some Jvm.ClassFile.FieldType.int)) ∈ wsG := xg_tab (xc5 (List.mem_of_getElem? (i := 99) rfl)) rfl
theorem kw_1060 : (Jvm.Cond.methodLink "ContractLoadersModel" (244 : Nat) ({ cls := "ContractLoadersModel", name := "having", desc := "(II)I" } : Jvm.MethodName)) ∈ wsG := xg_tab (xc5 (List.mem_of_getElem? (i := 100) rfl)) rfl
theorem kw_1061 : (Jvm.Cond.privateMethod ({ cls := "ContractLoadersModel", name := "having", desc := "(II)I" } : Jvm.MethodName)) ∈ tables_1 := xc5 (List.mem_of_getElem? (i := 101) rfl)
theorem kw_1062 : (Jvm.Cond.instanceMethod ({ cls := "ContractLoadersModel", name := "having", desc := "(II)I" } : Jvm.MethodName)) ∈ wsG := xg_tab (xc5 (List.mem_of_getElem? (i := 102) rfl)) rfl
theorem kw_1063 : (Jvm.Cond.code ({ cls := "ContractLoadersModel", name := "having", desc := "(II)I" } : Jvm.MethodName) prog_11_method_36_code (4 : Nat) (Option.some Jvm.ClassFile.FieldType.int)) ∈ wsG := xg_tab (xc5 (List.mem_of_getElem? (i := 103) rfl)) rfl
theorem kw_1064 : (Jvm.Cond.methodLink "ContractLoadersModel" (247 : Nat) ({ cls := "ContractLoadersModel", name := "push", desc := "(IIZIIJ)V" } : Jvm.MethodName)) ∈ wsG := xg_tab (xc5 (List.mem_of_getElem? (i := 104) rfl)) rfl
theorem kw_1065 : (Jvm.Cond.privateMethod ({ cls := "ContractLoadersModel", name := "push", desc := "(IIZIIJ)V" } : Jvm.MethodName)) ∈ tables_1 := xc5 (List.mem_of_getElem? (i := 105) rfl)
theorem kw_1066 : (Jvm.Cond.instanceMethod ({ cls := "ContractLoadersModel", name := "push", desc := "(IIZIIJ)V" } : Jvm.MethodName)) ∈ wsG := xg_tab (xc5 (List.mem_of_getElem? (i := 106) rfl)) rfl
theorem kw_1067 : (Jvm.Cond.code ({ cls := "ContractLoadersModel", name := "push", desc := "(IIZIIJ)V" } : Jvm.MethodName) prog_11_method_37_code (8 : Nat) (Option.none : Option Jvm.ClassFile.FieldType)) ∈ wsG := xg_tab (xc5 (List.mem_of_getElem? (i := 107) rfl)) rfl
theorem kw_1068 : (Jvm.Cond.methodLink "ContractLoadersModel" (297 : Nat) ({ cls := "ContractLoadersModel", name := "run", desc := "()V" } : Jvm.MethodName)) ∈ wsG := xg_tab (xc5 (List.mem_of_getElem? (i := 108) rfl)) rfl
theorem kw_1069 : (Jvm.Cond.privateMethod ({ cls := "ContractLoadersModel", name := "run", desc := "()V" } : Jvm.MethodName)) ∈ tables_1 := xc5 (List.mem_of_getElem? (i := 109) rfl)
theorem kw_1070 : (Jvm.Cond.instanceMethod ({ cls := "ContractLoadersModel", name := "run", desc := "()V" } : Jvm.MethodName)) ∈ wsG := xg_tab (xc5 (List.mem_of_getElem? (i := 110) rfl)) rfl
theorem kw_1071 : (Jvm.Cond.code ({ cls := "ContractLoadersModel", name := "run", desc := "()V" } : Jvm.MethodName) prog_11_method_41_code (5 : Nat) (Option.none : Option Jvm.ClassFile.FieldType)) ∈ wsG := xg_tab (xc5 (List.mem_of_getElem? (i := 111) rfl)) rfl
theorem kw_1072 : (Jvm.Cond.methodLink "ContractLoadersModel" (254 : Nat) ({ cls := "ContractLoadersModel", name := "leave", desc := "()V" } : Jvm.MethodName)) ∈ wsG := xg_tab (xc5 (List.mem_of_getElem? (i := 112) rfl)) rfl
theorem kw_1073 : (Jvm.Cond.privateMethod ({ cls := "ContractLoadersModel", name := "leave", desc := "()V" } : Jvm.MethodName)) ∈ tables_1 := xc5 (List.mem_of_getElem? (i := 113) rfl)
theorem kw_1074 : (Jvm.Cond.instanceMethod ({ cls := "ContractLoadersModel", name := "leave", desc := "()V" } : Jvm.MethodName)) ∈ wsG := xg_tab (xc5 (List.mem_of_getElem? (i := 114) rfl)) rfl
theorem kw_1075 : (Jvm.Cond.code ({ cls := "ContractLoadersModel", name := "leave", desc := "()V" } : Jvm.MethodName) prog_11_method_39_code (1 : Nat) (Option.none : Option Jvm.ClassFile.FieldType)) ∈ wsG := xg_tab (xc5 (List.mem_of_getElem? (i := 115) rfl)) rfl
theorem kw_1076 : (Jvm.Cond.methodLink "ContractLoadersModel" (264 : Nat) ({ cls := "ContractLoadersModel", name := "unwind", desc := "()V" } : Jvm.MethodName)) ∈ wsG := xg_tab (xc5 (List.mem_of_getElem? (i := 116) rfl)) rfl
theorem kw_1077 : (Jvm.Cond.privateMethod ({ cls := "ContractLoadersModel", name := "unwind", desc := "()V" } : Jvm.MethodName)) ∈ tables_1 := xc5 (List.mem_of_getElem? (i := 117) rfl)
theorem kw_1078 : (Jvm.Cond.instanceMethod ({ cls := "ContractLoadersModel", name := "unwind", desc := "()V" } : Jvm.MethodName)) ∈ wsG := xg_tab (xc5 (List.mem_of_getElem? (i := 118) rfl)) rfl
theorem kw_1079 : (Jvm.Cond.code ({ cls := "ContractLoadersModel", name := "unwind", desc := "()V" } : Jvm.MethodName) prog_11_method_40_code (3 : Nat) (Option.none : Option Jvm.ClassFile.FieldType)) ∈ wsG := xg_tab (xc5 (List.mem_of_getElem? (i := 119) rfl)) rfl
theorem kw_1080 : (Jvm.Cond.methodLink "ContractLoadersModel" (267 : Nat) ({ cls := "ContractLoadersModel", name := "doNext", desc := "(II)V" } : Jvm.MethodName)) ∈ wsG := xg_tab (xc5 (List.mem_of_getElem? (i := 120) rfl)) rfl
theorem kw_1081 : (Jvm.Cond.privateMethod ({ cls := "ContractLoadersModel", name := "doNext", desc := "(II)V" } : Jvm.MethodName)) ∈ tables_1 := xc5 (List.mem_of_getElem? (i := 121) rfl)
theorem kw_1082 : (Jvm.Cond.instanceMethod ({ cls := "ContractLoadersModel", name := "doNext", desc := "(II)V" } : Jvm.MethodName)) ∈ wsG := xg_tab (xc5 (List.mem_of_getElem? (i := 122) rfl)) rfl
theorem kw_1083 : (Jvm.Cond.code ({ cls := "ContractLoadersModel", name := "doNext", desc := "(II)V" } : Jvm.MethodName) prog_11_method_42_code (4 : Nat) (Option.none : Option Jvm.ClassFile.FieldType)) ∈ wsG := xg_tab (xc5 (List.mem_of_getElem? (i := 123) rfl)) rfl
theorem kw_1084 : (Jvm.Cond.methodLink "ContractLoadersModel" (270 : Nat) ({ cls := "ContractLoadersModel", name := "ofRow", desc := "(II)I" } : Jvm.MethodName)) ∈ wsG := xg_tab (xc5 (List.mem_of_getElem? (i := 124) rfl)) rfl
theorem kw_1085 : (Jvm.Cond.privateMethod ({ cls := "ContractLoadersModel", name := "ofRow", desc := "(II)I" } : Jvm.MethodName)) ∈ tables_1 := xc5 (List.mem_of_getElem? (i := 125) rfl)
theorem kw_1086 : (Jvm.Cond.instanceMethod ({ cls := "ContractLoadersModel", name := "ofRow", desc := "(II)I" } : Jvm.MethodName)) ∈ wsG := xg_tab (xc5 (List.mem_of_getElem? (i := 126) rfl)) rfl
theorem kw_1087 : (Jvm.Cond.code ({ cls := "ContractLoadersModel", name := "ofRow", desc := "(II)I" } : Jvm.MethodName) prog_11_method_44_code (12 : Nat) (Option.some Jvm.ClassFile.FieldType.int)) ∈ wsG := xg_tab (xc5 (List.mem_of_getElem? (i := 127) rfl)) rfl
theorem kw_1088 : (Jvm.Cond.methodLink "ContractLoadersModel" (276 : Nat) ({ cls := "java/lang/Double", name := "longBitsToDouble", desc := "(J)D" } : Jvm.MethodName)) ∈ wsG := xg_tab (xc5 (List.mem_of_getElem? (i := 128) rfl)) rfl
theorem kw_1089 : (Jvm.Cond.static ({ cls := "java/lang/Double", name := "longBitsToDouble", desc := "(J)D" } : Jvm.MethodName)) ∈ wsG := xg_tab (xc5 (List.mem_of_getElem? (i := 129) rfl)) rfl
theorem kw_1090 : (Jvm.Cond.native ({ cls := "java/lang/Double", name := "longBitsToDouble", desc := "(J)D" } : Jvm.MethodName)) ∈ wsG := xg_tab (xc5 (List.mem_of_getElem? (i := 130) rfl)) rfl
theorem kw_1091 : (Jvm.Cond.methodLink "ContractLoadersModel" (282 : Nat) ({ cls := "java/lang/Double", name := "doubleToLongBits", desc := "(D)J" } : Jvm.MethodName)) ∈ wsG := xg_tab (xc5 (List.mem_of_getElem? (i := 131) rfl)) rfl
theorem kw_1092 : (Jvm.Cond.static ({ cls := "java/lang/Double", name := "doubleToLongBits", desc := "(D)J" } : Jvm.MethodName)) ∈ wsG := xg_tab (xc5 (List.mem_of_getElem? (i := 132) rfl)) rfl
theorem kw_1093 : (Jvm.Cond.code ({ cls := "java/lang/Double", name := "doubleToLongBits", desc := "(D)J" } : Jvm.MethodName) prog_12_method_23_code (2 : Nat) (Option.some Jvm.ClassFile.FieldType.long)) ∈ wsG := xg_tab (xc5 (List.mem_of_getElem? (i := 133) rfl)) rfl
theorem kw_1094 : (Jvm.Cond.methodLink "java/lang/Double" (122 : Nat) ({ cls := "java/lang/Double", name := "isNaN", desc := "(D)Z" } : Jvm.MethodName)) ∈ wsG := xg_tab (xc5 (List.mem_of_getElem? (i := 134) rfl)) rfl
theorem kw_1095 : (Jvm.Cond.static ({ cls := "java/lang/Double", name := "isNaN", desc := "(D)Z" } : Jvm.MethodName)) ∈ wsG := xg_tab (xc5 (List.mem_of_getElem? (i := 135) rfl)) rfl
theorem kw_1096 : (Jvm.Cond.code ({ cls := "java/lang/Double", name := "isNaN", desc := "(D)Z" } : Jvm.MethodName) prog_12_method_6_code (2 : Nat) (Option.some Jvm.ClassFile.FieldType.boolean)) ∈ wsG := xg_tab (xc5 (List.mem_of_getElem? (i := 136) rfl)) rfl
theorem kw_1097 : (Jvm.Cond.methodLink "java/lang/Double" (134 : Nat) ({ cls := "java/lang/Double", name := "doubleToRawLongBits", desc := "(D)J" } : Jvm.MethodName)) ∈ wsG := xg_tab (xc5 (List.mem_of_getElem? (i := 137) rfl)) rfl
theorem kw_1098 : (Jvm.Cond.static ({ cls := "java/lang/Double", name := "doubleToRawLongBits", desc := "(D)J" } : Jvm.MethodName)) ∈ wsG := xg_tab (xc5 (List.mem_of_getElem? (i := 138) rfl)) rfl
theorem kw_1099 : (Jvm.Cond.native ({ cls := "java/lang/Double", name := "doubleToRawLongBits", desc := "(D)J" } : Jvm.MethodName)) ∈ wsG := xg_tab (xc5 (List.mem_of_getElem? (i := 139) rfl)) rfl
theorem kw_1100 : (Jvm.Cond.constantLong "java/lang/Double" (137 : Nat) (9221120237041090560 : Int64)) ∈ wsG := xg_tab (xc5 (List.mem_of_getElem? (i := 140) rfl)) rfl
theorem kw_1101 : (Jvm.Cond.methodLink "ContractLoadersModel" (286 : Nat) ({ cls := "ContractLoadersModel", name := "lowered", desc := "(IJ)J" } : Jvm.MethodName)) ∈ wsG := xg_tab (xc5 (List.mem_of_getElem? (i := 141) rfl)) rfl
theorem kw_1102 : (Jvm.Cond.static ({ cls := "ContractLoadersModel", name := "lowered", desc := "(IJ)J" } : Jvm.MethodName)) ∈ wsG := xg_tab (xc5 (List.mem_of_getElem? (i := 142) rfl)) rfl
theorem kw_1103 : (Jvm.Cond.code ({ cls := "ContractLoadersModel", name := "lowered", desc := "(IJ)J" } : Jvm.MethodName) prog_11_method_43_code (3 : Nat) (Option.some Jvm.ClassFile.FieldType.long)) ∈ wsG := xg_tab (xc5 (List.mem_of_getElem? (i := 143) rfl)) rfl
theorem kw_1104 : (Jvm.Cond.methodLink "ContractLoadersModel" (273 : Nat) ({ cls := "ContractLoadersModel", name := "of", desc := "(II)I" } : Jvm.MethodName)) ∈ wsG := xg_tab (xc5 (List.mem_of_getElem? (i := 144) rfl)) rfl
theorem kw_1105 : (Jvm.Cond.privateMethod ({ cls := "ContractLoadersModel", name := "of", desc := "(II)I" } : Jvm.MethodName)) ∈ tables_1 := xc5 (List.mem_of_getElem? (i := 145) rfl)
theorem kw_1106 : (Jvm.Cond.instanceMethod ({ cls := "ContractLoadersModel", name := "of", desc := "(II)I" } : Jvm.MethodName)) ∈ wsG := xg_tab (xc5 (List.mem_of_getElem? (i := 146) rfl)) rfl
theorem kw_1107 : (Jvm.Cond.code ({ cls := "ContractLoadersModel", name := "of", desc := "(II)I" } : Jvm.MethodName) prog_11_method_45_code (6 : Nat) (Option.some Jvm.ClassFile.FieldType.int)) ∈ wsG := xg_tab (xc5 (List.mem_of_getElem? (i := 147) rfl)) rfl
theorem kw_1108 : (Jvm.Cond.methodLink "ContractLoadersModel" (290 : Nat) ({ cls := "ContractLoadersModel", name := "callsOther", desc := "(III)I" } : Jvm.MethodName)) ∈ wsG := xg_tab (xc5 (List.mem_of_getElem? (i := 148) rfl)) rfl
theorem kw_1109 : (Jvm.Cond.privateMethod ({ cls := "ContractLoadersModel", name := "callsOther", desc := "(III)I" } : Jvm.MethodName)) ∈ tables_1 := xc5 (List.mem_of_getElem? (i := 149) rfl)
theorem kw_1110 : (Jvm.Cond.instanceMethod ({ cls := "ContractLoadersModel", name := "callsOther", desc := "(III)I" } : Jvm.MethodName)) ∈ wsG := xg_tab (xc5 (List.mem_of_getElem? (i := 150) rfl)) rfl
theorem kw_1111 : (Jvm.Cond.code ({ cls := "ContractLoadersModel", name := "callsOther", desc := "(III)I" } : Jvm.MethodName) prog_11_method_46_code (7 : Nat) (Option.some Jvm.ClassFile.FieldType.int)) ∈ wsG := xg_tab (xc5 (List.mem_of_getElem? (i := 151) rfl)) rfl
theorem kw_1112 : (Jvm.Cond.methodLink "ContractLoadersLaw" (84 : Nat) ({ cls := "ContractLoadersModel", name := "value", desc := "()J" } : Jvm.MethodName)) ∈ wsG := xg_tab (xc5 (List.mem_of_getElem? (i := 152) rfl)) rfl
theorem kw_1113 : (Jvm.Cond.instanceMethod ({ cls := "ContractLoadersModel", name := "value", desc := "()J" } : Jvm.MethodName)) ∈ wsG := xg_tab (xc5 (List.mem_of_getElem? (i := 153) rfl)) rfl
theorem kw_1114 : (Jvm.Cond.selects "ContractLoadersModel" ({ cls := "ContractLoadersModel", name := "value", desc := "()J" } : Jvm.MethodName) ({ cls := "ContractLoadersModel", name := "value", desc := "()J" } : Jvm.MethodName)) ∈ wsG := xg_tab (xc5 (List.mem_of_getElem? (i := 154) rfl)) rfl
theorem kw_1115 : (Jvm.Cond.code ({ cls := "ContractLoadersModel", name := "value", desc := "()J" } : Jvm.MethodName) prog_11_method_48_code (1 : Nat) (Option.some Jvm.ClassFile.FieldType.long)) ∈ wsG := xg_tab (xc5 (List.mem_of_getElem? (i := 155) rfl)) rfl
theorem kw_1116 : (Jvm.Cond.methodLink "ContractLoadersLaw" (90 : Nat) ({ cls := "ContractLoadersModel", name := "place", desc := "(II)J" } : Jvm.MethodName)) ∈ wsG := xg_tab (xc5 (List.mem_of_getElem? (i := 156) rfl)) rfl
theorem kw_1117 : (Jvm.Cond.instanceMethod ({ cls := "ContractLoadersModel", name := "place", desc := "(II)J" } : Jvm.MethodName)) ∈ wsG := xg_tab (xc5 (List.mem_of_getElem? (i := 157) rfl)) rfl
theorem kw_1118 : (Jvm.Cond.selects "ContractLoadersModel" ({ cls := "ContractLoadersModel", name := "place", desc := "(II)J" } : Jvm.MethodName) ({ cls := "ContractLoadersModel", name := "place", desc := "(II)J" } : Jvm.MethodName)) ∈ wsG := xg_tab (xc5 (List.mem_of_getElem? (i := 158) rfl)) rfl
theorem kw_1119 : (Jvm.Cond.code ({ cls := "ContractLoadersModel", name := "place", desc := "(II)J" } : Jvm.MethodName) prog_11_method_49_code (3 : Nat) (Option.some Jvm.ClassFile.FieldType.long)) ∈ wsG := xg_tab (xc5 (List.mem_of_getElem? (i := 159) rfl)) rfl
theorem kw_1120 : (Jvm.Cond.methodLink "ContractLoadersLaw" (98 : Nat) ({ cls := "ContractLoadersModel", name := "told", desc := "(II)I" } : Jvm.MethodName)) ∈ wsG := xg_tab (xc5 (List.mem_of_getElem? (i := 160) rfl)) rfl
theorem kw_1121 : (Jvm.Cond.instanceMethod ({ cls := "ContractLoadersModel", name := "told", desc := "(II)I" } : Jvm.MethodName)) ∈ wsG := xg_tab (xc5 (List.mem_of_getElem? (i := 161) rfl)) rfl
theorem kw_1122 : (Jvm.Cond.selects "ContractLoadersModel" ({ cls := "ContractLoadersModel", name := "told", desc := "(II)I" } : Jvm.MethodName) ({ cls := "ContractLoadersModel", name := "told", desc := "(II)I" } : Jvm.MethodName)) ∈ wsG := xg_tab (xc5 (List.mem_of_getElem? (i := 162) rfl)) rfl
theorem kw_1123 : (Jvm.Cond.code ({ cls := "ContractLoadersModel", name := "told", desc := "(II)I" } : Jvm.MethodName) prog_11_method_51_code (5 : Nat) (Option.some Jvm.ClassFile.FieldType.int)) ∈ wsG := xg_tab (xc5 (List.mem_of_getElem? (i := 163) rfl)) rfl
theorem kw_1124 : (Jvm.Cond.constantLong "ContractLoadersModel" (303 : Nat) (5 : Int64)) ∈ wsG := xg_tab (xc5 (List.mem_of_getElem? (i := 164) rfl)) rfl
theorem kw_1125 : (Jvm.Cond.methodLink "ContractLoadersModel" (305 : Nat) ({ cls := "ContractLoadersModel", name := "there", desc := "(I)I" } : Jvm.MethodName)) ∈ wsG := xg_tab (xc5 (List.mem_of_getElem? (i := 165) rfl)) rfl
theorem kw_1126 : (Jvm.Cond.privateMethod ({ cls := "ContractLoadersModel", name := "there", desc := "(I)I" } : Jvm.MethodName)) ∈ tables_1 := xc5 (List.mem_of_getElem? (i := 166) rfl)
theorem kw_1127 : (Jvm.Cond.instanceMethod ({ cls := "ContractLoadersModel", name := "there", desc := "(I)I" } : Jvm.MethodName)) ∈ wsG := xg_tab (xc5 (List.mem_of_getElem? (i := 167) rfl)) rfl
theorem kw_1128 : (Jvm.Cond.code ({ cls := "ContractLoadersModel", name := "there", desc := "(I)I" } : Jvm.MethodName) prog_11_method_50_code (4 : Nat) (Option.some Jvm.ClassFile.FieldType.int)) ∈ wsG := xg_tab (xc5 (List.mem_of_getElem? (i := 168) rfl)) rfl
theorem kw_1129 : (Jvm.Cond.methodLink "ContractLoadersLaw" (102 : Nat) ({ cls := "ContractLoadersModel", name := "count", desc := "(I)I" } : Jvm.MethodName)) ∈ wsG := xg_tab (xc5 (List.mem_of_getElem? (i := 169) rfl)) rfl
theorem kw_1130 : (Jvm.Cond.instanceMethod ({ cls := "ContractLoadersModel", name := "count", desc := "(I)I" } : Jvm.MethodName)) ∈ wsG := xg_tab (xc5 (List.mem_of_getElem? (i := 170) rfl)) rfl
theorem kw_1131 : (Jvm.Cond.selects "ContractLoadersModel" ({ cls := "ContractLoadersModel", name := "count", desc := "(I)I" } : Jvm.MethodName) ({ cls := "ContractLoadersModel", name := "count", desc := "(I)I" } : Jvm.MethodName)) ∈ wsG := xg_tab (xc5 (List.mem_of_getElem? (i := 171) rfl)) rfl
theorem kw_1132 : (Jvm.Cond.code ({ cls := "ContractLoadersModel", name := "count", desc := "(I)I" } : Jvm.MethodName) prog_11_method_52_code (2 : Nat) (Option.some Jvm.ClassFile.FieldType.int)) ∈ wsG := xg_tab (xc5 (List.mem_of_getElem? (i := 172) rfl)) rfl
theorem kw_1133 : (Jvm.Cond.constantLong "ContractLoadersLaw" (73 : Nat) (4294967295 : Int64)) ∈ wsG := xg_tab (xc5 (List.mem_of_getElem? (i := 173) rfl)) rfl
theorem kw_1134 : (Jvm.Cond.sameMethod "java/lang/Throwable" "java/lang/Throwable" "fillInStackTrace" "(I)Ljava/lang/Throwable;") ∈ tables_1 := xc5 (List.mem_of_getElem? (i := 174) rfl)
theorem ks_0 : Cond.selects "ContractLoaders$Library" (⟨"ContractLoaders$Library", "found", "(LContractLoaders$Loader;II)LContractLoaders$LoadedClass;"⟩ : Jvm.MethodName) (⟨"ContractLoaders$Library", "found", "(LContractLoaders$Loader;II)LContractLoaders$LoadedClass;"⟩ : Jvm.MethodName) ∈ wsG := xg_sel (List.mem_of_getElem? (i := 0) rfl) rfl
theorem ks_1 : Cond.selects "ContractLoaders$Library" (⟨"ContractLoaders$Library", "refused", "(I)LContractLoaders$LoadedClass;"⟩ : Jvm.MethodName) (⟨"ContractLoaders$Library", "refused", "(I)LContractLoaders$LoadedClass;"⟩ : Jvm.MethodName) ∈ wsG := xg_sel (List.mem_of_getElem? (i := 1) rfl) rfl
theorem ks_2 : Cond.selects "ContractLoaders$Library" (⟨"ContractLoaders$Library", "makes", "(LContractLoaders$LoadedClass;I)Z"⟩ : Jvm.MethodName) (⟨"ContractLoaders$Library", "makes", "(LContractLoaders$LoadedClass;I)Z"⟩ : Jvm.MethodName) ∈ wsG := xg_sel (List.mem_of_getElem? (i := 2) rfl) rfl
theorem ks_3 : Cond.selects "ContractLoaders" (⟨"ContractLoaders", "toldOrFailure", "(LContractLoaders$LoadedClass;)I"⟩ : Jvm.MethodName) (⟨"ContractLoaders", "toldOrFailure", "(LContractLoaders$LoadedClass;)I"⟩ : Jvm.MethodName) ∈ wsG := xg_sel (List.mem_of_getElem? (i := 3) rfl) rfl
theorem ks_4 : Cond.selects "ContractLoaders$Machine" (⟨"ContractLoaders$Machine", "enter", "(LContractLoaders$Contract;I)I"⟩ : Jvm.MethodName) (⟨"ContractLoaders$Machine", "enter", "(LContractLoaders$Contract;I)I"⟩ : Jvm.MethodName) ∈ wsG := xg_sel (List.mem_of_getElem? (i := 4) rfl) rfl
theorem ks_5 : Cond.selects "ContractLoaders$Machine" (⟨"ContractLoaders$Machine", "push", "(ZLContractLoaders$Contract;LContractLoaders$LoadedClass;LContractLoaders$LoadedClass;I)I"⟩ : Jvm.MethodName) (⟨"ContractLoaders$Machine", "push", "(ZLContractLoaders$Contract;LContractLoaders$LoadedClass;LContractLoaders$LoadedClass;I)I"⟩ : Jvm.MethodName) ∈ wsG := xg_sel (List.mem_of_getElem? (i := 5) rfl) rfl
theorem ks_6 : Cond.selects "ContractLoaders$Machine" (⟨"ContractLoaders$Machine", "work", "(LContractLoaders$Frame;)I"⟩ : Jvm.MethodName) (⟨"ContractLoaders$Machine", "work", "(LContractLoaders$Frame;)I"⟩ : Jvm.MethodName) ∈ wsG := xg_sel (List.mem_of_getElem? (i := 6) rfl) rfl
theorem ks_7 : Cond.selects "ContractLoaders$Machine" (⟨"ContractLoaders$Machine", "leave", "()V"⟩ : Jvm.MethodName) (⟨"ContractLoaders$Machine", "leave", "()V"⟩ : Jvm.MethodName) ∈ wsG := xg_sel (List.mem_of_getElem? (i := 7) rfl) rfl
theorem ks_8 : Cond.selects "ContractLoaders$Machine" (⟨"ContractLoaders$Machine", "workCall", "(LContractLoaders$Frame;II)I"⟩ : Jvm.MethodName) (⟨"ContractLoaders$Machine", "workCall", "(LContractLoaders$Frame;II)I"⟩ : Jvm.MethodName) ∈ wsG := xg_sel (List.mem_of_getElem? (i := 8) rfl) rfl
theorem ks_9 : Cond.selects "ContractLoaders$Machine" (⟨"ContractLoaders$Machine", "workFind", "(LContractLoaders$Frame;I)I"⟩ : Jvm.MethodName) (⟨"ContractLoaders$Machine", "workFind", "(LContractLoaders$Frame;I)I"⟩ : Jvm.MethodName) ∈ wsG := xg_sel (List.mem_of_getElem? (i := 9) rfl) rfl
theorem ks_10 : Cond.selects "ContractLoaders$Machine" (⟨"ContractLoaders$Machine", "workAs", "(LContractLoaders$Frame;I)I"⟩ : Jvm.MethodName) (⟨"ContractLoaders$Machine", "workAs", "(LContractLoaders$Frame;I)I"⟩ : Jvm.MethodName) ∈ wsG := xg_sel (List.mem_of_getElem? (i := 10) rfl) rfl
theorem ks_11 : Cond.selects "ContractLoaders$Machine" (⟨"ContractLoaders$Machine", "workLetGo", "(I)I"⟩ : Jvm.MethodName) (⟨"ContractLoaders$Machine", "workLetGo", "(I)I"⟩ : Jvm.MethodName) ∈ wsG := xg_sel (List.mem_of_getElem? (i := 11) rfl) rfl
theorem ks_12 : Cond.selects "ContractLoaders$Machine" (⟨"ContractLoaders$Machine", "workTry", "(LContractLoaders$Frame;)I"⟩ : Jvm.MethodName) (⟨"ContractLoaders$Machine", "workTry", "(LContractLoaders$Frame;)I"⟩ : Jvm.MethodName) ∈ wsG := xg_sel (List.mem_of_getElem? (i := 12) rfl) rfl
theorem ks_13 : Cond.selects "ContractLoaders$Machine" (⟨"ContractLoaders$Machine", "workOnRow", "(LContractLoaders$Frame;III)I"⟩ : Jvm.MethodName) (⟨"ContractLoaders$Machine", "workOnRow", "(LContractLoaders$Frame;III)I"⟩ : Jvm.MethodName) ∈ wsG := xg_sel (List.mem_of_getElem? (i := 13) rfl) rfl
theorem ks_14 : Cond.selects "ContractLoaders$Machine" (⟨"ContractLoaders$Machine", "isHeldByTry", "(I)Z"⟩ : Jvm.MethodName) (⟨"ContractLoaders$Machine", "isHeldByTry", "(I)Z"⟩ : Jvm.MethodName) ∈ wsG := xg_sel (List.mem_of_getElem? (i := 14) rfl) rfl
theorem ks_15 : Cond.selects "java/lang/Throwable" (⟨"java/lang/Throwable", "fillInStackTrace", "(I)Ljava/lang/Throwable;"⟩ : Jvm.MethodName) (⟨"java/lang/Throwable", "fillInStackTrace", "(I)Ljava/lang/Throwable;"⟩ : Jvm.MethodName) ∈ wsG := xg_sel (List.mem_of_getElem? (i := 15) rfl) rfl
theorem ks_16 : Cond.selects "ContractLoadersModel" (⟨"ContractLoadersModel", "isFile", "(I)Z"⟩ : Jvm.MethodName) (⟨"ContractLoadersModel", "isFile", "(I)Z"⟩ : Jvm.MethodName) ∈ wsG := xg_sel (List.mem_of_getElem? (i := 16) rfl) rfl
theorem ks_17 : Cond.selects "ContractLoadersModel" (⟨"ContractLoadersModel", "isOffered", "(I)Z"⟩ : Jvm.MethodName) (⟨"ContractLoadersModel", "isOffered", "(I)Z"⟩ : Jvm.MethodName) ∈ wsG := xg_sel (List.mem_of_getElem? (i := 17) rfl) rfl
theorem ks_18 : Cond.selects "ContractLoadersModel" (⟨"ContractLoadersModel", "isLoader", "(I)Z"⟩ : Jvm.MethodName) (⟨"ContractLoadersModel", "isLoader", "(I)Z"⟩ : Jvm.MethodName) ∈ wsG := xg_sel (List.mem_of_getElem? (i := 18) rfl) rfl
theorem ks_19 : Cond.selects "ContractLoadersModel" (⟨"ContractLoadersModel", "findOne", "(II)I"⟩ : Jvm.MethodName) (⟨"ContractLoadersModel", "findOne", "(II)I"⟩ : Jvm.MethodName) ∈ wsG := xg_sel (List.mem_of_getElem? (i := 19) rfl) rfl
theorem ks_20 : Cond.selects "ContractLoadersModel" (⟨"ContractLoadersModel", "findFrom", "(III)I"⟩ : Jvm.MethodName) (⟨"ContractLoadersModel", "findFrom", "(III)I"⟩ : Jvm.MethodName) ∈ wsG := xg_sel (List.mem_of_getElem? (i := 20) rfl) rfl
theorem ks_21 : Cond.selects "ContractLoadersModel" (⟨"ContractLoadersModel", "look", "(III)V"⟩ : Jvm.MethodName) (⟨"ContractLoadersModel", "look", "(III)V"⟩ : Jvm.MethodName) ∈ wsG := xg_sel (List.mem_of_getElem? (i := 21) rfl) rfl
theorem ks_22 : Cond.selects "ContractLoadersModel" (⟨"ContractLoadersModel", "first", "(II)V"⟩ : Jvm.MethodName) (⟨"ContractLoadersModel", "first", "(II)V"⟩ : Jvm.MethodName) ∈ wsG := xg_sel (List.mem_of_getElem? (i := 22) rfl) rfl
theorem ks_23 : Cond.selects "ContractLoadersModel" (⟨"ContractLoadersModel", "gives", "(I)V"⟩ : Jvm.MethodName) (⟨"ContractLoadersModel", "gives", "(I)V"⟩ : Jvm.MethodName) ∈ wsG := xg_sel (List.mem_of_getElem? (i := 23) rfl) rfl
theorem ks_24 : Cond.selects "ContractLoadersModel" (⟨"ContractLoadersModel", "begin", "(II)V"⟩ : Jvm.MethodName) (⟨"ContractLoadersModel", "begin", "(II)V"⟩ : Jvm.MethodName) ∈ wsG := xg_sel (List.mem_of_getElem? (i := 24) rfl) rfl
theorem ks_25 : Cond.selects "ContractLoadersModel" (⟨"ContractLoadersModel", "takeSuper", "(II)V"⟩ : Jvm.MethodName) (⟨"ContractLoadersModel", "takeSuper", "(II)V"⟩ : Jvm.MethodName) ∈ wsG := xg_sel (List.mem_of_getElem? (i := 25) rfl) rfl
theorem ks_26 : Cond.selects "ContractLoadersModel" (⟨"ContractLoadersModel", "aboveMany", "(I)I"⟩ : Jvm.MethodName) (⟨"ContractLoadersModel", "aboveMany", "(I)I"⟩ : Jvm.MethodName) ∈ wsG := xg_sel (List.mem_of_getElem? (i := 26) rfl) rfl
theorem ks_27 : Cond.selects "ContractLoadersModel" (⟨"ContractLoadersModel", "fails", "(II)V"⟩ : Jvm.MethodName) (⟨"ContractLoadersModel", "fails", "(II)V"⟩ : Jvm.MethodName) ∈ wsG := xg_sel (List.mem_of_getElem? (i := 27) rfl) rfl
theorem ks_28 : Cond.selects "ContractLoadersModel" (⟨"ContractLoadersModel", "takeFace", "(II)V"⟩ : Jvm.MethodName) (⟨"ContractLoadersModel", "takeFace", "(II)V"⟩ : Jvm.MethodName) ∈ wsG := xg_sel (List.mem_of_getElem? (i := 28) rfl) rfl
theorem ks_29 : Cond.selects "ContractLoadersModel" (⟨"ContractLoadersModel", "letGo", "(I)I"⟩ : Jvm.MethodName) (⟨"ContractLoadersModel", "letGo", "(I)I"⟩ : Jvm.MethodName) ∈ wsG := xg_sel (List.mem_of_getElem? (i := 29) rfl) rfl
theorem ks_30 : Cond.selects "ContractLoadersModel" (⟨"ContractLoadersModel", "isLoaderBelow", "(II)Z"⟩ : Jvm.MethodName) (⟨"ContractLoadersModel", "isLoaderBelow", "(II)Z"⟩ : Jvm.MethodName) ∈ wsG := xg_sel (List.mem_of_getElem? (i := 30) rfl) rfl
theorem ks_31 : Cond.selects "ContractLoadersModel" (⟨"ContractLoadersModel", "isBelow", "(II)Z"⟩ : Jvm.MethodName) (⟨"ContractLoadersModel", "isBelow", "(II)Z"⟩ : Jvm.MethodName) ∈ wsG := xg_sel (List.mem_of_getElem? (i := 31) rfl) rfl
theorem ks_32 : Cond.selects "ContractLoadersModel" (⟨"ContractLoadersModel", "plain", "(II)I"⟩ : Jvm.MethodName) (⟨"ContractLoadersModel", "plain", "(II)I"⟩ : Jvm.MethodName) ∈ wsG := xg_sel (List.mem_of_getElem? (i := 32) rfl) rfl
theorem ks_33 : Cond.selects "ContractLoadersModel" (⟨"ContractLoadersModel", "isContract", "(I)Z"⟩ : Jvm.MethodName) (⟨"ContractLoadersModel", "isContract", "(I)Z"⟩ : Jvm.MethodName) ∈ wsG := xg_sel (List.mem_of_getElem? (i := 33) rfl) rfl
theorem ks_34 : Cond.selects "ContractLoadersModel" (⟨"ContractLoadersModel", "enter", "(IIJ)I"⟩ : Jvm.MethodName) (⟨"ContractLoadersModel", "enter", "(IIJ)I"⟩ : Jvm.MethodName) ∈ wsG := xg_sel (List.mem_of_getElem? (i := 34) rfl) rfl
theorem ks_35 : Cond.selects "ContractLoadersModel" (⟨"ContractLoadersModel", "having", "(II)I"⟩ : Jvm.MethodName) (⟨"ContractLoadersModel", "having", "(II)I"⟩ : Jvm.MethodName) ∈ wsG := xg_sel (List.mem_of_getElem? (i := 35) rfl) rfl
theorem ks_36 : Cond.selects "ContractLoadersModel" (⟨"ContractLoadersModel", "push", "(IIZIIJ)V"⟩ : Jvm.MethodName) (⟨"ContractLoadersModel", "push", "(IIZIIJ)V"⟩ : Jvm.MethodName) ∈ wsG := xg_sel (List.mem_of_getElem? (i := 36) rfl) rfl
theorem ks_37 : Cond.selects "ContractLoadersModel" (⟨"ContractLoadersModel", "run", "()V"⟩ : Jvm.MethodName) (⟨"ContractLoadersModel", "run", "()V"⟩ : Jvm.MethodName) ∈ wsG := xg_sel (List.mem_of_getElem? (i := 37) rfl) rfl
theorem ks_38 : Cond.selects "ContractLoadersModel" (⟨"ContractLoadersModel", "leave", "()V"⟩ : Jvm.MethodName) (⟨"ContractLoadersModel", "leave", "()V"⟩ : Jvm.MethodName) ∈ wsG := xg_sel (List.mem_of_getElem? (i := 38) rfl) rfl
theorem ks_39 : Cond.selects "ContractLoadersModel" (⟨"ContractLoadersModel", "unwind", "()V"⟩ : Jvm.MethodName) (⟨"ContractLoadersModel", "unwind", "()V"⟩ : Jvm.MethodName) ∈ wsG := xg_sel (List.mem_of_getElem? (i := 39) rfl) rfl
theorem ks_40 : Cond.selects "ContractLoadersModel" (⟨"ContractLoadersModel", "doNext", "(II)V"⟩ : Jvm.MethodName) (⟨"ContractLoadersModel", "doNext", "(II)V"⟩ : Jvm.MethodName) ∈ wsG := xg_sel (List.mem_of_getElem? (i := 40) rfl) rfl
theorem ks_41 : Cond.selects "ContractLoadersModel" (⟨"ContractLoadersModel", "ofRow", "(II)I"⟩ : Jvm.MethodName) (⟨"ContractLoadersModel", "ofRow", "(II)I"⟩ : Jvm.MethodName) ∈ wsG := xg_sel (List.mem_of_getElem? (i := 41) rfl) rfl
theorem ks_42 : Cond.selects "ContractLoadersModel" (⟨"ContractLoadersModel", "of", "(II)I"⟩ : Jvm.MethodName) (⟨"ContractLoadersModel", "of", "(II)I"⟩ : Jvm.MethodName) ∈ wsG := xg_sel (List.mem_of_getElem? (i := 42) rfl) rfl
theorem ks_43 : Cond.selects "ContractLoadersModel" (⟨"ContractLoadersModel", "callsOther", "(III)I"⟩ : Jvm.MethodName) (⟨"ContractLoadersModel", "callsOther", "(III)I"⟩ : Jvm.MethodName) ∈ wsG := xg_sel (List.mem_of_getElem? (i := 43) rfl) rfl
theorem ks_44 : Cond.selects "ContractLoadersModel" (⟨"ContractLoadersModel", "there", "(I)I"⟩ : Jvm.MethodName) (⟨"ContractLoadersModel", "there", "(I)I"⟩ : Jvm.MethodName) ∈ wsG := xg_sel (List.mem_of_getElem? (i := 44) rfl) rfl
theorem inG0 : ∀ w ∈ wsX00, w ∈ wsG := by
  intro w h
  obtain ⟨k, hk, rfl⟩ := List.mem_map.mp h
  have hk := List.mem_range.mp hk
  match k, hk with
  | 0, _ => exact kw_210
  | 1, _ => exact kw_212
  | 2, _ => exact kw_214
  | 3, _ => exact kw_216
  | 4, _ => exact kw_218
  | 5, _ => exact kw_220
  | 6, _ => exact kw_222
  | 7, _ => exact kw_224
  | 8, _ => exact kw_226
  | 9, _ => exact kw_228
  | 10, _ => exact kw_230
  | 11, _ => exact kw_232
  | k + 12, h => exact absurd h (by omega)
theorem inG1 : ∀ w ∈ wsX10, w ∈ wsG := by
  intro w h
  obtain ⟨k, hk, rfl⟩ := List.mem_map.mp h
  have hk := List.mem_range.mp hk
  match k, hk with
  | 0, _ => exact kw_449
  | 1, _ => exact kw_451
  | 2, _ => exact kw_453
  | 3, _ => exact kw_455
  | k + 4, h => exact absurd h (by omega)
theorem inG2 : ∀ w ∈ wsX20, w ∈ wsG := by
  intro w h
  obtain ⟨k, hk, rfl⟩ := List.mem_map.mp h
  have hk := List.mem_range.mp hk
  match k, hk with
  | 0, _ => exact kw_530
  | 1, _ => exact kw_532
  | 2, _ => exact kw_534
  | 3, _ => exact kw_536
  | 4, _ => exact kw_538
  | 5, _ => exact kw_540
  | 6, _ => exact kw_542
  | 7, _ => exact kw_544
  | k + 8, h => exact absurd h (by omega)
theorem inG3 : ∀ w ∈ wsX30, w ∈ wsG := by
  intro w h
  obtain ⟨k, hk, rfl⟩ := List.mem_map.mp h
  have hk := List.mem_range.mp hk
  match k, hk with
  | 0, _ => exact kw_80
  | 1, _ => exact kw_82
  | 2, _ => exact kw_84
  | 3, _ => exact kw_86
  | 4, _ => exact kw_88
  | 5, _ => exact kw_90
  | k + 6, h => exact absurd h (by omega)
theorem inG4 : ∀ w ∈ wsX40, w ∈ wsG := by
  intro w h
  obtain ⟨k, hk, rfl⟩ := List.mem_map.mp h
  have hk := List.mem_range.mp hk
  match k, hk with
  | 0, _ => exact kw_314
  | 1, _ => exact kw_316
  | 2, _ => exact kw_318
  | 3, _ => exact kw_320
  | 4, _ => exact kw_322
  | 5, _ => exact kw_324
  | 6, _ => exact kw_326
  | 7, _ => exact kw_328
  | 8, _ => exact kw_330
  | k + 9, h => exact absurd h (by omega)
theorem inG5 : ∀ w ∈ wsX50, w ∈ wsG := by
  intro w h
  obtain ⟨k, hk, rfl⟩ := List.mem_map.mp h
  have hk := List.mem_range.mp hk
  match k, hk with
  | 0, _ => exact kw_58
  | 1, _ => exact kw_60
  | 2, _ => exact kw_62
  | 3, _ => exact kw_64
  | 4, _ => exact kw_66
  | k + 5, h => exact absurd h (by omega)
theorem inG6 : ∀ w ∈ wsX60, w ∈ wsG := by
  intro w h
  obtain ⟨k, hk, rfl⟩ := List.mem_map.mp h
  have hk := List.mem_range.mp hk
  match k, hk with
  | 0, _ => exact kw_137
  | 1, _ => exact kw_139
  | 2, _ => exact kw_141
  | 3, _ => exact kw_143
  | 4, _ => exact kw_145
  | 5, _ => exact kw_147
  | 6, _ => exact kw_149
  | 7, _ => exact kw_151
  | 8, _ => exact kw_153
  | 9, _ => exact kw_155
  | 10, _ => exact kw_157
  | 11, _ => exact kw_159
  | 12, _ => exact kw_161
  | k + 13, h => exact absurd h (by omega)
theorem inG7 : ∀ w ∈ wsX70, w ∈ wsG := by
  intro w h
  obtain ⟨k, hk, rfl⟩ := List.mem_map.mp h
  have hk := List.mem_range.mp hk
  match k, hk with
  | 0, _ => exact kw_109
  | 1, _ => exact kw_111
  | k + 2, h => exact absurd h (by omega)
theorem inG8 : ∀ w ∈ wsX80, w ∈ wsG := by
  intro w h
  obtain ⟨k, hk, rfl⟩ := List.mem_map.mp h
  have hk := List.mem_range.mp hk
  match k, hk with
  | 0, _ => exact kw_166
  | 1, _ => exact kw_168
  | k + 2, h => exact absurd h (by omega)
theorem inG9 : ∀ w ∈ wsX90, w ∈ wsG := by
  intro w h
  obtain ⟨k, hk, rfl⟩ := List.mem_map.mp h
  have hk := List.mem_range.mp hk
  match k, hk with
  | 0, _ => exact kw_806
  | 1, _ => exact kw_808
  | 2, _ => exact kw_810
  | 3, _ => exact kw_812
  | 4, _ => exact kw_814
  | 5, _ => exact kw_816
  | 6, _ => exact kw_818
  | 7, _ => exact kw_820
  | 8, _ => exact kw_822
  | 9, _ => exact kw_824
  | 10, _ => exact kw_826
  | 11, _ => exact kw_828
  | 12, _ => exact kw_830
  | 13, _ => exact kw_832
  | 14, _ => exact kw_834
  | 15, _ => exact kw_836
  | 16, _ => exact kw_838
  | 17, _ => exact kw_840
  | 18, _ => exact kw_842
  | 19, _ => exact kw_844
  | 20, _ => exact kw_846
  | 21, _ => exact kw_848
  | 22, _ => exact kw_850
  | 23, _ => exact kw_852
  | 24, _ => exact kw_854
  | 25, _ => exact kw_856
  | 26, _ => exact kw_858
  | 27, _ => exact kw_860
  | 28, _ => exact kw_862
  | 29, _ => exact kw_864
  | 30, _ => exact kw_866
  | 31, _ => exact kw_868
  | 32, _ => exact kw_870
  | 33, _ => exact kw_872
  | 34, _ => exact kw_874
  | 35, _ => exact kw_876
  | 36, _ => exact kw_878
  | 37, _ => exact kw_880
  | 38, _ => exact kw_882
  | 39, _ => exact kw_884
  | 40, _ => exact kw_886
  | 41, _ => exact kw_888
  | 42, _ => exact kw_890
  | 43, _ => exact kw_892
  | 44, _ => exact kw_894
  | 45, _ => exact kw_896
  | 46, _ => exact kw_898
  | 47, _ => exact kw_900
  | 48, _ => exact kw_902
  | 49, _ => exact kw_904
  | 50, _ => exact kw_906
  | 51, _ => exact kw_908
  | k + 52, h => exact absurd h (by omega)
