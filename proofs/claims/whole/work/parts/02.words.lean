theorem q_0 : Cond.initialized "FileTreeLaw" ∈ lw_g := lw_gi (List.mem_append_right _ (List.mem_of_getElem? (i := 0) (by decide +kernel))) rfl
theorem q_1 : Cond.initialized "FileTree" ∈ lw_g := lw_gi (List.mem_append_right _ (List.mem_of_getElem? (i := 1) (by decide +kernel))) rfl
theorem q_2 : Cond.initialized "FileTree$Directories" ∈ lw_g := lw_gi (List.mem_append_right _ (List.mem_of_getElem? (i := 2) (by decide +kernel))) rfl
theorem q_3 : Cond.initialized "FileTree$Inodes" ∈ lw_g := lw_gi (List.mem_append_right _ (List.mem_of_getElem? (i := 3) (by decide +kernel))) rfl
theorem q_4 : Cond.initialized "FileTree$Disk" ∈ lw_g := lw_gi (List.mem_append_right _ (List.mem_of_getElem? (i := 4) (by decide +kernel))) rfl
theorem q_5 : Cond.initialized "FileTree$Text" ∈ lw_g := lw_gi (List.mem_append_right _ (List.mem_of_getElem? (i := 5) (by decide +kernel))) rfl
theorem q_6 : Cond.initialized "java/lang/Integer" ∈ lw_g := lw_gi (List.mem_append_right _ (List.mem_of_getElem? (i := 6) (by decide +kernel))) rfl
theorem q_7 : Cond.initialized "FileTreeModel" ∈ lw_g := lw_gi (List.mem_append_right _ (List.mem_of_getElem? (i := 7) (by decide +kernel))) rfl
theorem q_8 : Cond.initialized "java/lang/Math" ∈ lw_g := lw_gi (List.mem_append_right _ (List.mem_of_getElem? (i := 8) (by decide +kernel))) rfl
theorem q_9 : Cond.classLink "FileTreeLaw" 7 "FileTree" ∈ lw_g := lw_gi (List.mem_append_right _ (List.mem_of_getElem? (i := 9) (by decide +kernel))) rfl
theorem q_10 : Cond.instantiable "FileTree" 5 ∈ lw_g := lw_gi (List.mem_append_right _ (List.mem_of_getElem? (i := 10) (by decide +kernel))) rfl
theorem q_11 : Cond.methodLink "FileTreeLaw" 9 ⟨"FileTree", "<init>", "()V"⟩ ∈ lw_g := lw_gi (List.mem_append_right _ (List.mem_of_getElem? (i := 11) (by decide +kernel))) rfl
theorem q_12 : Cond.instanceMethod ⟨"FileTree", "<init>", "()V"⟩ ∈ lw_g := lw_gi (List.mem_append_right _ (List.mem_of_getElem? (i := 12) (by decide +kernel))) rfl
theorem q_13 : Cond.code ⟨"FileTree", "<init>", "()V"⟩ prog_1_method_1_code 1 (Option.none : Option Jvm.ClassFile.FieldType) ∈ lw_g := lw_gi (List.mem_append_right _ (List.mem_of_getElem? (i := 13) (by decide +kernel))) rfl
theorem q_14 : Cond.methodLink "FileTree" 3 ⟨"java/lang/Object", "<init>", "()V"⟩ ∈ lw_g := lw_gi (List.mem_append_right _ (List.mem_of_getElem? (i := 14) (by decide +kernel))) rfl
theorem q_15 : Cond.instanceMethod ⟨"java/lang/Object", "<init>", "()V"⟩ ∈ lw_g := lw_gi (List.mem_append_right _ (List.mem_of_getElem? (i := 15) (by decide +kernel))) rfl
theorem q_16 : Cond.code ⟨"java/lang/Object", "<init>", "()V"⟩ object_method_1_code 1 (Option.none : Option Jvm.ClassFile.FieldType) ∈ lw_g := lw_gi (List.mem_append_right _ (List.mem_of_getElem? (i := 16) (by decide +kernel))) rfl
theorem q_17 : Cond.classLink "FileTree" 9 "FileTree$Directories" ∈ lw_g := lw_gi (List.mem_append_right _ (List.mem_of_getElem? (i := 17) (by decide +kernel))) rfl
theorem q_18 : Cond.instantiable "FileTree$Directories" 2 ∈ lw_g := lw_gi (List.mem_append_right _ (List.mem_of_getElem? (i := 18) (by decide +kernel))) rfl
theorem q_19 : Cond.methodLinkNest "FileTree" 11 ⟨"FileTree$Directories", "<init>", "()V"⟩ "FileTree" ∈ lw_tbl := List.mem_append_right _ (List.mem_of_getElem? (i := 19) (by decide +kernel))
theorem q_20 : Cond.instanceMethod ⟨"FileTree$Directories", "<init>", "()V"⟩ ∈ lw_g := lw_gi (List.mem_append_right _ (List.mem_of_getElem? (i := 20) (by decide +kernel))) rfl
theorem q_21 : Cond.code ⟨"FileTree$Directories", "<init>", "()V"⟩ prog_2_method_1_code 1 (Option.none : Option Jvm.ClassFile.FieldType) ∈ lw_g := lw_gi (List.mem_append_right _ (List.mem_of_getElem? (i := 21) (by decide +kernel))) rfl
theorem q_22 : Cond.methodLink "FileTree$Directories" 3 ⟨"java/lang/Object", "<init>", "()V"⟩ ∈ lw_g := lw_gi (List.mem_append_right _ (List.mem_of_getElem? (i := 22) (by decide +kernel))) rfl
theorem q_23 : Cond.classLink "FileTree$Directories" 9 "FileTree$Inodes" ∈ lw_g := lw_gi (List.mem_append_right _ (List.mem_of_getElem? (i := 23) (by decide +kernel))) rfl
theorem q_24 : Cond.instantiable "FileTree$Inodes" 2 ∈ lw_g := lw_gi (List.mem_append_right _ (List.mem_of_getElem? (i := 24) (by decide +kernel))) rfl
theorem q_25 : Cond.methodLinkNest "FileTree$Directories" 11 ⟨"FileTree$Inodes", "<init>", "()V"⟩ "FileTree" ∈ lw_tbl := List.mem_append_right _ (List.mem_of_getElem? (i := 25) (by decide +kernel))
theorem q_26 : Cond.instanceMethod ⟨"FileTree$Inodes", "<init>", "()V"⟩ ∈ lw_g := lw_gi (List.mem_append_right _ (List.mem_of_getElem? (i := 26) (by decide +kernel))) rfl
theorem q_27 : Cond.code ⟨"FileTree$Inodes", "<init>", "()V"⟩ prog_4_method_1_code 1 (Option.none : Option Jvm.ClassFile.FieldType) ∈ lw_g := lw_gi (List.mem_append_right _ (List.mem_of_getElem? (i := 27) (by decide +kernel))) rfl
theorem q_28 : Cond.methodLink "FileTree$Inodes" 5 ⟨"java/lang/Object", "<init>", "()V"⟩ ∈ lw_g := lw_gi (List.mem_append_right _ (List.mem_of_getElem? (i := 28) (by decide +kernel))) rfl
theorem q_29 : Cond.classLink "FileTree$Inodes" 11 "FileTree$Disk" ∈ lw_g := lw_gi (List.mem_append_right _ (List.mem_of_getElem? (i := 29) (by decide +kernel))) rfl
theorem q_30 : Cond.instantiable "FileTree$Disk" 1 ∈ lw_g := lw_gi (List.mem_append_right _ (List.mem_of_getElem? (i := 30) (by decide +kernel))) rfl
theorem q_31 : Cond.methodLinkNest "FileTree$Inodes" 13 ⟨"FileTree$Disk", "<init>", "()V"⟩ "FileTree" ∈ lw_tbl := List.mem_append_right _ (List.mem_of_getElem? (i := 31) (by decide +kernel))
theorem q_32 : Cond.instanceMethod ⟨"FileTree$Disk", "<init>", "()V"⟩ ∈ lw_g := lw_gi (List.mem_append_right _ (List.mem_of_getElem? (i := 32) (by decide +kernel))) rfl
theorem q_33 : Cond.code ⟨"FileTree$Disk", "<init>", "()V"⟩ prog_3_method_1_code 1 (Option.none : Option Jvm.ClassFile.FieldType) ∈ lw_g := lw_gi (List.mem_append_right _ (List.mem_of_getElem? (i := 33) (by decide +kernel))) rfl
theorem q_34 : Cond.methodLink "FileTree$Disk" 3 ⟨"java/lang/Object", "<init>", "()V"⟩ ∈ lw_g := lw_gi (List.mem_append_right _ (List.mem_of_getElem? (i := 34) (by decide +kernel))) rfl
theorem q_35 : Cond.constant "FileTree$Disk" 9 131072 ∈ lw_g := lw_gi (List.mem_append_right _ (List.mem_of_getElem? (i := 35) (by decide +kernel))) rfl
theorem q_36 : Cond.fieldLink "FileTree$Disk" 10 "FileTree$Disk" "words" "[I" ∈ lw_g := lw_gi (List.mem_append_right _ (List.mem_of_getElem? (i := 36) (by decide +kernel))) rfl
theorem q_40 : Cond.arrayClass (Jvm.ClassFile.FieldType.int) ∈ lw_g := lw_gi (List.mem_append_right _ (List.mem_of_getElem? (i := 40) (by decide +kernel))) rfl
theorem q_41 : Cond.fieldLink "FileTree$Inodes" 14 "FileTree$Inodes" "disk" "LFileTree$Disk;" ∈ lw_g := lw_gi (List.mem_append_right _ (List.mem_of_getElem? (i := 41) (by decide +kernel))) rfl
theorem q_42 : Cond.fieldLink "FileTree$Directories" 18 "FileTree$Inodes" "disk" "LFileTree$Disk;" ∈ lw_g := lw_gi (List.mem_append_right _ (List.mem_of_getElem? (i := 42) (by decide +kernel))) rfl
theorem q_43 : Cond.fieldLink "FileTree" 21 "FileTree$Inodes" "disk" "LFileTree$Disk;" ∈ lw_g := lw_gi (List.mem_append_right _ (List.mem_of_getElem? (i := 43) (by decide +kernel))) rfl
theorem q_44 : Cond.fieldLink "FileTree$Inodes" 18 "FileTree$Inodes" "held" "[I" ∈ lw_g := lw_gi (List.mem_append_right _ (List.mem_of_getElem? (i := 44) (by decide +kernel))) rfl
theorem q_50 : Cond.fieldLink "FileTree$Directories" 12 "FileTree$Directories" "inodes" "LFileTree$Inodes;" ∈ lw_g := lw_gi (List.mem_append_right _ (List.mem_of_getElem? (i := 50) (by decide +kernel))) rfl
theorem q_51 : Cond.fieldLink "FileTree" 16 "FileTree$Directories" "inodes" "LFileTree$Inodes;" ∈ lw_g := lw_gi (List.mem_append_right _ (List.mem_of_getElem? (i := 51) (by decide +kernel))) rfl
theorem q_52 : Cond.fieldLink "FileTree$Directories" 22 "FileTree$Directories" "disk" "LFileTree$Disk;" ∈ lw_g := lw_gi (List.mem_append_right _ (List.mem_of_getElem? (i := 52) (by decide +kernel))) rfl
theorem q_58 : Cond.classLink "FileTree" 28 "FileTree$Text" ∈ lw_g := lw_gi (List.mem_append_right _ (List.mem_of_getElem? (i := 58) (by decide +kernel))) rfl
theorem q_59 : Cond.instantiable "FileTree$Text" 4 ∈ lw_g := lw_gi (List.mem_append_right _ (List.mem_of_getElem? (i := 59) (by decide +kernel))) rfl
theorem q_60 : Cond.methodLinkNest "FileTree" 30 ⟨"FileTree$Text", "<init>", "()V"⟩ "FileTree" ∈ lw_tbl := List.mem_append_right _ (List.mem_of_getElem? (i := 60) (by decide +kernel))
theorem q_61 : Cond.instanceMethod ⟨"FileTree$Text", "<init>", "()V"⟩ ∈ lw_g := lw_gi (List.mem_append_right _ (List.mem_of_getElem? (i := 61) (by decide +kernel))) rfl
theorem q_62 : Cond.code ⟨"FileTree$Text", "<init>", "()V"⟩ prog_5_method_1_code 1 (Option.none : Option Jvm.ClassFile.FieldType) ∈ lw_g := lw_gi (List.mem_append_right _ (List.mem_of_getElem? (i := 62) (by decide +kernel))) rfl
theorem q_63 : Cond.methodLink "FileTree$Text" 3 ⟨"java/lang/Object", "<init>", "()V"⟩ ∈ lw_g := lw_gi (List.mem_append_right _ (List.mem_of_getElem? (i := 63) (by decide +kernel))) rfl
theorem q_64 : Cond.fieldLink "FileTree$Text" 9 "FileTree$Text" "bytes" "[B" ∈ lw_g := lw_gi (List.mem_append_right _ (List.mem_of_getElem? (i := 64) (by decide +kernel))) rfl
theorem q_65 : Cond.fieldLink "FileTree$Text" 15 "FileTree$Text" "name" "[B" ∈ lw_g := lw_gi (List.mem_append_right _ (List.mem_of_getElem? (i := 65) (by decide +kernel))) rfl
theorem q_66 : Cond.fieldLink "FileTree" 177 "FileTree$Text" "name" "[B" ∈ lw_g := lw_gi (List.mem_append_right _ (List.mem_of_getElem? (i := 66) (by decide +kernel))) rfl
theorem q_67 : Cond.fieldLink "FileTree$Text" 18 "FileTree$Text" "last" "[B" ∈ lw_g := lw_gi (List.mem_append_right _ (List.mem_of_getElem? (i := 67) (by decide +kernel))) rfl
theorem q_68 : Cond.fieldLink "FileTree" 71 "FileTree$Text" "last" "[B" ∈ lw_g := lw_gi (List.mem_append_right _ (List.mem_of_getElem? (i := 68) (by decide +kernel))) rfl
theorem q_69 : Cond.fieldLink "FileTree$Text" 23 "FileTree$Text" "length" "I" ∈ lw_g := lw_gi (List.mem_append_right _ (List.mem_of_getElem? (i := 69) (by decide +kernel))) rfl
theorem q_70 : Cond.fieldLink "FileTree" 56 "FileTree$Text" "length" "I" ∈ lw_g := lw_gi (List.mem_append_right _ (List.mem_of_getElem? (i := 70) (by decide +kernel))) rfl
theorem q_80 : Cond.arrayClass (Jvm.ClassFile.FieldType.byte) ∈ lw_g := lw_gi (List.mem_append_right _ (List.mem_of_getElem? (i := 80) (by decide +kernel))) rfl
theorem q_81 : Cond.methodLink "FileTree" 39 ⟨"FileTree$Disk", "format", "()V"⟩ ∈ lw_g := lw_gi (List.mem_append_right _ (List.mem_of_getElem? (i := 81) (by decide +kernel))) rfl
theorem q_82 : Cond.instanceMethod ⟨"FileTree$Disk", "format", "()V"⟩ ∈ lw_g := lw_gi (List.mem_append_right _ (List.mem_of_getElem? (i := 82) (by decide +kernel))) rfl
theorem q_83 : Cond.selects "FileTree$Disk" ⟨"FileTree$Disk", "format", "()V"⟩ ⟨"FileTree$Disk", "format", "()V"⟩ ∈ lw_g := lw_gi (List.mem_append_right _ (List.mem_of_getElem? (i := 83) (by decide +kernel))) rfl
theorem q_84 : Cond.code ⟨"FileTree$Disk", "format", "()V"⟩ prog_3_method_6_code 2 (Option.none : Option Jvm.ClassFile.FieldType) ∈ lw_g := lw_gi (List.mem_append_right _ (List.mem_of_getElem? (i := 84) (by decide +kernel))) rfl
theorem q_85 : Cond.fieldLinkNest "FileTree$Disk" 16 "FileTree" "SUPERBLOCK" "[I" "FileTree" ∈ lw_tbl := List.mem_append_right _ (List.mem_of_getElem? (i := 85) (by decide +kernel))
theorem q_86 : Cond.laysStatic "FileTree" "SUPERBLOCK" "[I" ∈ lw_tbl := List.mem_append_right _ (List.mem_of_getElem? (i := 86) (by decide +kernel))
theorem q_87 : Cond.methodLink "FileTree$Disk" 19 ⟨"FileTree$Disk", "setNumber", "(II)V"⟩ ∈ lw_g := lw_gi (List.mem_append_right _ (List.mem_of_getElem? (i := 87) (by decide +kernel))) rfl
theorem q_88 : Cond.instanceMethod ⟨"FileTree$Disk", "setNumber", "(II)V"⟩ ∈ lw_g := lw_gi (List.mem_append_right _ (List.mem_of_getElem? (i := 88) (by decide +kernel))) rfl
theorem q_89 : Cond.selects "FileTree$Disk" ⟨"FileTree$Disk", "setNumber", "(II)V"⟩ ⟨"FileTree$Disk", "setNumber", "(II)V"⟩ ∈ lw_g := lw_gi (List.mem_append_right _ (List.mem_of_getElem? (i := 89) (by decide +kernel))) rfl
theorem q_90 : Cond.code ⟨"FileTree$Disk", "setNumber", "(II)V"⟩ prog_3_method_3_code 4 (Option.none : Option Jvm.ClassFile.FieldType) ∈ lw_g := lw_gi (List.mem_append_right _ (List.mem_of_getElem? (i := 90) (by decide +kernel))) rfl
theorem q_91 : Cond.methodLink "FileTree$Disk" 23 ⟨"FileTree$Disk", "mark", "(IZ)V"⟩ ∈ lw_g := lw_gi (List.mem_append_right _ (List.mem_of_getElem? (i := 91) (by decide +kernel))) rfl
theorem q_93 : Cond.instanceMethod ⟨"FileTree$Disk", "mark", "(IZ)V"⟩ ∈ lw_g := lw_gi (List.mem_append_right _ (List.mem_of_getElem? (i := 93) (by decide +kernel))) rfl
theorem q_94 : Cond.code ⟨"FileTree$Disk", "mark", "(IZ)V"⟩ prog_3_method_11_code 6 (Option.none : Option Jvm.ClassFile.FieldType) ∈ lw_g := lw_gi (List.mem_append_right _ (List.mem_of_getElem? (i := 94) (by decide +kernel))) rfl
theorem q_95 : Cond.constant "FileTree$Disk" 27 37888 ∈ lw_g := lw_gi (List.mem_append_right _ (List.mem_of_getElem? (i := 95) (by decide +kernel))) rfl
theorem q_96 : Cond.methodLink "FileTree$Disk" 37 ⟨"FileTree$Disk", "partAt", "(II)I"⟩ ∈ lw_g := lw_gi (List.mem_append_right _ (List.mem_of_getElem? (i := 96) (by decide +kernel))) rfl
theorem q_97 : Cond.instanceMethod ⟨"FileTree$Disk", "partAt", "(II)I"⟩ ∈ lw_g := lw_gi (List.mem_append_right _ (List.mem_of_getElem? (i := 97) (by decide +kernel))) rfl
theorem q_98 : Cond.selects "FileTree$Disk" ⟨"FileTree$Disk", "partAt", "(II)I"⟩ ⟨"FileTree$Disk", "partAt", "(II)I"⟩ ∈ lw_g := lw_gi (List.mem_append_right _ (List.mem_of_getElem? (i := 98) (by decide +kernel))) rfl
theorem q_99 : Cond.code ⟨"FileTree$Disk", "partAt", "(II)I"⟩ prog_3_method_4_code 5 (Option.some Jvm.ClassFile.FieldType.int) ∈ lw_g := lw_gi (List.mem_append_right _ (List.mem_of_getElem? (i := 99) (by decide +kernel))) rfl
theorem q_100 : Cond.methodLink "FileTree$Disk" 44 ⟨"FileTree$Disk", "setPart", "(III)V"⟩ ∈ lw_g := lw_gi (List.mem_append_right _ (List.mem_of_getElem? (i := 100) (by decide +kernel))) rfl
theorem q_101 : Cond.instanceMethod ⟨"FileTree$Disk", "setPart", "(III)V"⟩ ∈ lw_g := lw_gi (List.mem_append_right _ (List.mem_of_getElem? (i := 101) (by decide +kernel))) rfl
theorem q_102 : Cond.selects "FileTree$Disk" ⟨"FileTree$Disk", "setPart", "(III)V"⟩ ⟨"FileTree$Disk", "setPart", "(III)V"⟩ ∈ lw_g := lw_gi (List.mem_append_right _ (List.mem_of_getElem? (i := 102) (by decide +kernel))) rfl
theorem q_103 : Cond.code ⟨"FileTree$Disk", "setPart", "(III)V"⟩ prog_3_method_5_code 6 (Option.none : Option Jvm.ClassFile.FieldType) ∈ lw_g := lw_gi (List.mem_append_right _ (List.mem_of_getElem? (i := 103) (by decide +kernel))) rfl
theorem q_104 : Cond.methodLink "FileTree" 44 ⟨"FileTree$Inodes", "make", "(IIII)V"⟩ ∈ lw_g := lw_gi (List.mem_append_right _ (List.mem_of_getElem? (i := 104) (by decide +kernel))) rfl
theorem q_105 : Cond.instanceMethod ⟨"FileTree$Inodes", "make", "(IIII)V"⟩ ∈ lw_g := lw_gi (List.mem_append_right _ (List.mem_of_getElem? (i := 105) (by decide +kernel))) rfl
theorem q_106 : Cond.selects "FileTree$Inodes" ⟨"FileTree$Inodes", "make", "(IIII)V"⟩ ⟨"FileTree$Inodes", "make", "(IIII)V"⟩ ∈ lw_g := lw_gi (List.mem_append_right _ (List.mem_of_getElem? (i := 106) (by decide +kernel))) rfl
theorem q_107 : Cond.code ⟨"FileTree$Inodes", "make", "(IIII)V"⟩ prog_4_method_14_code 6 (Option.none : Option Jvm.ClassFile.FieldType) ∈ lw_g := lw_gi (List.mem_append_right _ (List.mem_of_getElem? (i := 107) (by decide +kernel))) rfl
theorem q_108 : Cond.methodLink "FileTree$Inodes" 26 ⟨"FileTree$Inodes", "isInode", "(I)Z"⟩ ∈ lw_g := lw_gi (List.mem_append_right _ (List.mem_of_getElem? (i := 108) (by decide +kernel))) rfl
theorem q_109 : Cond.instanceMethod ⟨"FileTree$Inodes", "isInode", "(I)Z"⟩ ∈ lw_g := lw_gi (List.mem_append_right _ (List.mem_of_getElem? (i := 109) (by decide +kernel))) rfl
theorem q_110 : Cond.selects "FileTree$Inodes" ⟨"FileTree$Inodes", "isInode", "(I)Z"⟩ ⟨"FileTree$Inodes", "isInode", "(I)Z"⟩ ∈ lw_g := lw_gi (List.mem_append_right _ (List.mem_of_getElem? (i := 110) (by decide +kernel))) rfl
theorem q_111 : Cond.code ⟨"FileTree$Inodes", "isInode", "(I)Z"⟩ prog_4_method_2_code 2 (Option.some Jvm.ClassFile.FieldType.boolean) ∈ lw_g := lw_gi (List.mem_append_right _ (List.mem_of_getElem? (i := 111) (by decide +kernel))) rfl
theorem q_112 : Cond.methodLink "FileTree$Inodes" 30 ⟨"FileTree$Inodes", "placeOf", "(I)I"⟩ ∈ lw_g := lw_gi (List.mem_append_right _ (List.mem_of_getElem? (i := 112) (by decide +kernel))) rfl
theorem q_114 : Cond.instanceMethod ⟨"FileTree$Inodes", "placeOf", "(I)I"⟩ ∈ lw_g := lw_gi (List.mem_append_right _ (List.mem_of_getElem? (i := 114) (by decide +kernel))) rfl
theorem q_115 : Cond.code ⟨"FileTree$Inodes", "placeOf", "(I)I"⟩ prog_4_method_22_code 2 (Option.some Jvm.ClassFile.FieldType.int) ∈ lw_g := lw_gi (List.mem_append_right _ (List.mem_of_getElem? (i := 115) (by decide +kernel))) rfl
theorem q_116 : Cond.constant "FileTree$Inodes" 102 33792 ∈ lw_g := lw_gi (List.mem_append_right _ (List.mem_of_getElem? (i := 116) (by decide +kernel))) rfl
theorem q_117 : Cond.constant "FileTree$Inodes" 33 65535 ∈ lw_g := lw_gi (List.mem_append_right _ (List.mem_of_getElem? (i := 117) (by decide +kernel))) rfl
theorem q_118 : Cond.methodLink "FileTree$Inodes" 44 ⟨"FileTree$Disk", "setPart", "(III)V"⟩ ∈ lw_g := lw_gi (List.mem_append_right _ (List.mem_of_getElem? (i := 118) (by decide +kernel))) rfl
theorem q_119 : Cond.methodLink "FileTree" 48 ⟨"FileTree$Directories", "begin", "(II)V"⟩ ∈ lw_g := lw_gi (List.mem_append_right _ (List.mem_of_getElem? (i := 119) (by decide +kernel))) rfl
theorem q_120 : Cond.instanceMethod ⟨"FileTree$Directories", "begin", "(II)V"⟩ ∈ lw_g := lw_gi (List.mem_append_right _ (List.mem_of_getElem? (i := 120) (by decide +kernel))) rfl
theorem q_121 : Cond.selects "FileTree$Directories" ⟨"FileTree$Directories", "begin", "(II)V"⟩ ⟨"FileTree$Directories", "begin", "(II)V"⟩ ∈ lw_g := lw_gi (List.mem_append_right _ (List.mem_of_getElem? (i := 121) (by decide +kernel))) rfl
theorem q_122 : Cond.code ⟨"FileTree$Directories", "begin", "(II)V"⟩ prog_2_method_7_code 3 (Option.none : Option Jvm.ClassFile.FieldType) ∈ lw_g := lw_gi (List.mem_append_right _ (List.mem_of_getElem? (i := 122) (by decide +kernel))) rfl
theorem q_123 : Cond.fieldLinkNest "FileTree$Directories" 77 "FileTree" "ITSELF" "[B" "FileTree" ∈ lw_tbl := List.mem_append_right _ (List.mem_of_getElem? (i := 123) (by decide +kernel))
theorem q_124 : Cond.laysStatic "FileTree" "ITSELF" "[B" ∈ lw_tbl := List.mem_append_right _ (List.mem_of_getElem? (i := 124) (by decide +kernel))
theorem q_125 : Cond.methodLink "FileTree$Directories" 81 ⟨"FileTree$Directories", "addEntry", "(I[BI)V"⟩ ∈ lw_g := lw_gi (List.mem_append_right _ (List.mem_of_getElem? (i := 125) (by decide +kernel))) rfl
theorem q_126 : Cond.instanceMethod ⟨"FileTree$Directories", "addEntry", "(I[BI)V"⟩ ∈ lw_g := lw_gi (List.mem_append_right _ (List.mem_of_getElem? (i := 126) (by decide +kernel))) rfl
theorem q_127 : Cond.selects "FileTree$Directories" ⟨"FileTree$Directories", "addEntry", "(I[BI)V"⟩ ⟨"FileTree$Directories", "addEntry", "(I[BI)V"⟩ ∈ lw_g := lw_gi (List.mem_append_right _ (List.mem_of_getElem? (i := 127) (by decide +kernel))) rfl
theorem q_128 : Cond.code ⟨"FileTree$Directories", "addEntry", "(I[BI)V"⟩ prog_2_method_5_code 6 (Option.none : Option Jvm.ClassFile.FieldType) ∈ lw_g := lw_gi (List.mem_append_right _ (List.mem_of_getElem? (i := 128) (by decide +kernel))) rfl
theorem q_129 : Cond.methodLink "FileTree$Directories" 47 ⟨"FileTree$Directories", "freeEntry", "(I)I"⟩ ∈ lw_g := lw_gi (List.mem_append_right _ (List.mem_of_getElem? (i := 129) (by decide +kernel))) rfl
theorem q_131 : Cond.instanceMethod ⟨"FileTree$Directories", "freeEntry", "(I)I"⟩ ∈ lw_g := lw_gi (List.mem_append_right _ (List.mem_of_getElem? (i := 131) (by decide +kernel))) rfl
theorem q_132 : Cond.code ⟨"FileTree$Directories", "freeEntry", "(I)I"⟩ prog_2_method_10_code 5 (Option.some Jvm.ClassFile.FieldType.int) ∈ lw_g := lw_gi (List.mem_append_right _ (List.mem_of_getElem? (i := 132) (by decide +kernel))) rfl
theorem q_133 : Cond.methodLink "FileTree$Directories" 23 ⟨"FileTree$Directories", "sizeOf", "(I)I"⟩ ∈ lw_g := lw_gi (List.mem_append_right _ (List.mem_of_getElem? (i := 133) (by decide +kernel))) rfl
theorem q_135 : Cond.instanceMethod ⟨"FileTree$Directories", "sizeOf", "(I)I"⟩ ∈ lw_g := lw_gi (List.mem_append_right _ (List.mem_of_getElem? (i := 135) (by decide +kernel))) rfl
theorem q_136 : Cond.code ⟨"FileTree$Directories", "sizeOf", "(I)I"⟩ prog_2_method_9_code 2 (Option.some Jvm.ClassFile.FieldType.int) ∈ lw_g := lw_gi (List.mem_append_right _ (List.mem_of_getElem? (i := 136) (by decide +kernel))) rfl
theorem q_137 : Cond.methodLink "FileTree$Directories" 41 ⟨"FileTree$Inodes", "kindOf", "(I)I"⟩ ∈ lw_g := lw_gi (List.mem_append_right _ (List.mem_of_getElem? (i := 137) (by decide +kernel))) rfl
theorem q_138 : Cond.instanceMethod ⟨"FileTree$Inodes", "kindOf", "(I)I"⟩ ∈ lw_g := lw_gi (List.mem_append_right _ (List.mem_of_getElem? (i := 138) (by decide +kernel))) rfl
theorem q_139 : Cond.selects "FileTree$Inodes" ⟨"FileTree$Inodes", "kindOf", "(I)I"⟩ ⟨"FileTree$Inodes", "kindOf", "(I)I"⟩ ∈ lw_g := lw_gi (List.mem_append_right _ (List.mem_of_getElem? (i := 139) (by decide +kernel))) rfl
theorem q_140 : Cond.code ⟨"FileTree$Inodes", "kindOf", "(I)I"⟩ prog_4_method_4_code 2 (Option.some Jvm.ClassFile.FieldType.int) ∈ lw_g := lw_gi (List.mem_append_right _ (List.mem_of_getElem? (i := 140) (by decide +kernel))) rfl
theorem q_141 : Cond.methodLink "FileTree$Inodes" 34 ⟨"FileTree$Disk", "partAt", "(II)I"⟩ ∈ lw_g := lw_gi (List.mem_append_right _ (List.mem_of_getElem? (i := 141) (by decide +kernel))) rfl
theorem q_142 : Cond.methodLink "FileTree$Directories" 95 ⟨"FileTree$Inodes", "sizeOf", "(I)I"⟩ ∈ lw_g := lw_gi (List.mem_append_right _ (List.mem_of_getElem? (i := 142) (by decide +kernel))) rfl
theorem q_143 : Cond.instanceMethod ⟨"FileTree$Inodes", "sizeOf", "(I)I"⟩ ∈ lw_g := lw_gi (List.mem_append_right _ (List.mem_of_getElem? (i := 143) (by decide +kernel))) rfl
theorem q_144 : Cond.selects "FileTree$Inodes" ⟨"FileTree$Inodes", "sizeOf", "(I)I"⟩ ⟨"FileTree$Inodes", "sizeOf", "(I)I"⟩ ∈ lw_g := lw_gi (List.mem_append_right _ (List.mem_of_getElem? (i := 144) (by decide +kernel))) rfl
theorem q_145 : Cond.code ⟨"FileTree$Inodes", "sizeOf", "(I)I"⟩ prog_4_method_8_code 2 (Option.some Jvm.ClassFile.FieldType.int) ∈ lw_g := lw_gi (List.mem_append_right _ (List.mem_of_getElem? (i := 145) (by decide +kernel))) rfl
theorem q_146 : Cond.methodLink "FileTree$Inodes" 38 ⟨"FileTree$Disk", "numberAt", "(I)I"⟩ ∈ lw_g := lw_gi (List.mem_append_right _ (List.mem_of_getElem? (i := 146) (by decide +kernel))) rfl
theorem q_147 : Cond.instanceMethod ⟨"FileTree$Disk", "numberAt", "(I)I"⟩ ∈ lw_g := lw_gi (List.mem_append_right _ (List.mem_of_getElem? (i := 147) (by decide +kernel))) rfl
theorem q_148 : Cond.selects "FileTree$Disk" ⟨"FileTree$Disk", "numberAt", "(I)I"⟩ ⟨"FileTree$Disk", "numberAt", "(I)I"⟩ ∈ lw_g := lw_gi (List.mem_append_right _ (List.mem_of_getElem? (i := 148) (by decide +kernel))) rfl
theorem q_149 : Cond.code ⟨"FileTree$Disk", "numberAt", "(I)I"⟩ prog_3_method_2_code 3 (Option.some Jvm.ClassFile.FieldType.int) ∈ lw_g := lw_gi (List.mem_append_right _ (List.mem_of_getElem? (i := 149) (by decide +kernel))) rfl
theorem q_150 : Cond.methodLink "FileTree$Directories" 27 ⟨"FileTree$Inodes", "placeOfByte", "(II)I"⟩ ∈ lw_g := lw_gi (List.mem_append_right _ (List.mem_of_getElem? (i := 150) (by decide +kernel))) rfl
theorem q_151 : Cond.instanceMethod ⟨"FileTree$Inodes", "placeOfByte", "(II)I"⟩ ∈ lw_g := lw_gi (List.mem_append_right _ (List.mem_of_getElem? (i := 151) (by decide +kernel))) rfl
theorem q_152 : Cond.selects "FileTree$Inodes" ⟨"FileTree$Inodes", "placeOfByte", "(II)I"⟩ ⟨"FileTree$Inodes", "placeOfByte", "(II)I"⟩ ∈ lw_g := lw_gi (List.mem_append_right _ (List.mem_of_getElem? (i := 152) (by decide +kernel))) rfl
theorem q_153 : Cond.code ⟨"FileTree$Inodes", "placeOfByte", "(II)I"⟩ prog_4_method_19_code 4 (Option.some Jvm.ClassFile.FieldType.int) ∈ lw_g := lw_gi (List.mem_append_right _ (List.mem_of_getElem? (i := 153) (by decide +kernel))) rfl
theorem q_154 : Cond.methodLink "FileTree$Inodes" 65 ⟨"FileTree$Inodes", "slotOf", "(II)I"⟩ ∈ lw_g := lw_gi (List.mem_append_right _ (List.mem_of_getElem? (i := 154) (by decide +kernel))) rfl
theorem q_156 : Cond.instanceMethod ⟨"FileTree$Inodes", "slotOf", "(II)I"⟩ ∈ lw_g := lw_gi (List.mem_append_right _ (List.mem_of_getElem? (i := 156) (by decide +kernel))) rfl
theorem q_157 : Cond.code ⟨"FileTree$Inodes", "slotOf", "(II)I"⟩ prog_4_method_23_code 4 (Option.some Jvm.ClassFile.FieldType.int) ∈ lw_g := lw_gi (List.mem_append_right _ (List.mem_of_getElem? (i := 157) (by decide +kernel))) rfl
theorem q_158 : Cond.constant "FileTree$Directories" 31 65535 ∈ lw_g := lw_gi (List.mem_append_right _ (List.mem_of_getElem? (i := 158) (by decide +kernel))) rfl
theorem q_159 : Cond.methodLink "FileTree$Directories" 32 ⟨"FileTree$Disk", "partAt", "(II)I"⟩ ∈ lw_g := lw_gi (List.mem_append_right _ (List.mem_of_getElem? (i := 159) (by decide +kernel))) rfl
theorem q_160 : Cond.methodLink "FileTree$Directories" 58 ⟨"FileTree$Inodes", "addBlock", "(II)Z"⟩ ∈ lw_g := lw_gi (List.mem_append_right _ (List.mem_of_getElem? (i := 160) (by decide +kernel))) rfl
theorem q_161 : Cond.instanceMethod ⟨"FileTree$Inodes", "addBlock", "(II)Z"⟩ ∈ lw_g := lw_gi (List.mem_append_right _ (List.mem_of_getElem? (i := 161) (by decide +kernel))) rfl
theorem q_162 : Cond.selects "FileTree$Inodes" ⟨"FileTree$Inodes", "addBlock", "(II)Z"⟩ ⟨"FileTree$Inodes", "addBlock", "(II)Z"⟩ ∈ lw_g := lw_gi (List.mem_append_right _ (List.mem_of_getElem? (i := 162) (by decide +kernel))) rfl
theorem q_163 : Cond.code ⟨"FileTree$Inodes", "addBlock", "(II)Z"⟩ prog_4_method_18_code 3 (Option.some Jvm.ClassFile.FieldType.boolean) ∈ lw_g := lw_gi (List.mem_append_right _ (List.mem_of_getElem? (i := 163) (by decide +kernel))) rfl
theorem q_164 : Cond.methodLink "FileTree$Inodes" 71 ⟨"FileTree$Inodes", "blocksToAdd", "(I)I"⟩ ∈ lw_g := lw_gi (List.mem_append_right _ (List.mem_of_getElem? (i := 164) (by decide +kernel))) rfl
theorem q_165 : Cond.instanceMethod ⟨"FileTree$Inodes", "blocksToAdd", "(I)I"⟩ ∈ lw_g := lw_gi (List.mem_append_right _ (List.mem_of_getElem? (i := 165) (by decide +kernel))) rfl
theorem q_166 : Cond.selects "FileTree$Inodes" ⟨"FileTree$Inodes", "blocksToAdd", "(I)I"⟩ ⟨"FileTree$Inodes", "blocksToAdd", "(I)I"⟩ ∈ lw_g := lw_gi (List.mem_append_right _ (List.mem_of_getElem? (i := 166) (by decide +kernel))) rfl
theorem q_167 : Cond.code ⟨"FileTree$Inodes", "blocksToAdd", "(I)I"⟩ prog_4_method_17_code 2 (Option.some Jvm.ClassFile.FieldType.int) ∈ lw_g := lw_gi (List.mem_append_right _ (List.mem_of_getElem? (i := 167) (by decide +kernel))) rfl
theorem q_168 : Cond.methodLink "FileTree$Inodes" 74 ⟨"FileTree$Disk", "freeBlocks", "()I"⟩ ∈ lw_g := lw_gi (List.mem_append_right _ (List.mem_of_getElem? (i := 168) (by decide +kernel))) rfl
theorem q_169 : Cond.instanceMethod ⟨"FileTree$Disk", "freeBlocks", "()I"⟩ ∈ lw_g := lw_gi (List.mem_append_right _ (List.mem_of_getElem? (i := 169) (by decide +kernel))) rfl
theorem q_170 : Cond.selects "FileTree$Disk" ⟨"FileTree$Disk", "freeBlocks", "()I"⟩ ⟨"FileTree$Disk", "freeBlocks", "()I"⟩ ∈ lw_g := lw_gi (List.mem_append_right _ (List.mem_of_getElem? (i := 170) (by decide +kernel))) rfl
theorem q_171 : Cond.code ⟨"FileTree$Disk", "freeBlocks", "()I"⟩ prog_3_method_7_code 3 (Option.some Jvm.ClassFile.FieldType.int) ∈ lw_g := lw_gi (List.mem_append_right _ (List.mem_of_getElem? (i := 171) (by decide +kernel))) rfl
theorem q_172 : Cond.methodLink "FileTree$Disk" 28 ⟨"FileTree$Disk", "numberAt", "(I)I"⟩ ∈ lw_g := lw_gi (List.mem_append_right _ (List.mem_of_getElem? (i := 172) (by decide +kernel))) rfl
theorem q_173 : Cond.methodLink "FileTree$Disk" 32 ⟨"java/lang/Integer", "bitCount", "(I)I"⟩ ∈ lw_g := lw_gi (List.mem_append_right _ (List.mem_of_getElem? (i := 173) (by decide +kernel))) rfl
theorem q_174 : Cond.static ⟨"java/lang/Integer", "bitCount", "(I)I"⟩ ∈ lw_g := lw_gi (List.mem_append_right _ (List.mem_of_getElem? (i := 174) (by decide +kernel))) rfl
theorem q_175 : Cond.code ⟨"java/lang/Integer", "bitCount", "(I)I"⟩ prog_8_method_49_code 1 (Option.some Jvm.ClassFile.FieldType.int) ∈ lw_g := lw_gi (List.mem_append_right _ (List.mem_of_getElem? (i := 175) (by decide +kernel))) rfl
theorem q_176 : Cond.constant "java/lang/Integer" 265 1431655765 ∈ lw_g := lw_gi (List.mem_append_right _ (List.mem_of_getElem? (i := 176) (by decide +kernel))) rfl
theorem q_177 : Cond.constant "java/lang/Integer" 266 858993459 ∈ lw_g := lw_gi (List.mem_append_right _ (List.mem_of_getElem? (i := 177) (by decide +kernel))) rfl
theorem q_178 : Cond.constant "java/lang/Integer" 267 252645135 ∈ lw_g := lw_gi (List.mem_append_right _ (List.mem_of_getElem? (i := 178) (by decide +kernel))) rfl
theorem q_179 : Cond.methodLink "FileTree$Inodes" 78 ⟨"FileTree$Disk", "takeBlock", "()I"⟩ ∈ lw_g := lw_gi (List.mem_append_right _ (List.mem_of_getElem? (i := 179) (by decide +kernel))) rfl
theorem q_180 : Cond.instanceMethod ⟨"FileTree$Disk", "takeBlock", "()I"⟩ ∈ lw_g := lw_gi (List.mem_append_right _ (List.mem_of_getElem? (i := 180) (by decide +kernel))) rfl
theorem q_181 : Cond.selects "FileTree$Disk" ⟨"FileTree$Disk", "takeBlock", "()I"⟩ ⟨"FileTree$Disk", "takeBlock", "()I"⟩ ∈ lw_g := lw_gi (List.mem_append_right _ (List.mem_of_getElem? (i := 181) (by decide +kernel))) rfl
theorem q_182 : Cond.code ⟨"FileTree$Disk", "takeBlock", "()I"⟩ prog_3_method_8_code 3 (Option.some Jvm.ClassFile.FieldType.int) ∈ lw_g := lw_gi (List.mem_append_right _ (List.mem_of_getElem? (i := 182) (by decide +kernel))) rfl
theorem q_183 : Cond.methodLink "FileTree$Disk" 41 ⟨"FileTree$Disk", "wipe", "(II)V"⟩ ∈ lw_g := lw_gi (List.mem_append_right _ (List.mem_of_getElem? (i := 183) (by decide +kernel))) rfl
theorem q_184 : Cond.instanceMethod ⟨"FileTree$Disk", "wipe", "(II)V"⟩ ∈ lw_g := lw_gi (List.mem_append_right _ (List.mem_of_getElem? (i := 184) (by decide +kernel))) rfl
theorem q_185 : Cond.selects "FileTree$Disk" ⟨"FileTree$Disk", "wipe", "(II)V"⟩ ⟨"FileTree$Disk", "wipe", "(II)V"⟩ ∈ lw_g := lw_gi (List.mem_append_right _ (List.mem_of_getElem? (i := 185) (by decide +kernel))) rfl
theorem q_186 : Cond.code ⟨"FileTree$Disk", "wipe", "(II)V"⟩ prog_3_method_10_code 4 (Option.none : Option Jvm.ClassFile.FieldType) ∈ lw_g := lw_gi (List.mem_append_right _ (List.mem_of_getElem? (i := 186) (by decide +kernel))) rfl
theorem q_187 : Cond.methodLink "FileTree$Inodes" 48 ⟨"FileTree$Disk", "setNumber", "(II)V"⟩ ∈ lw_g := lw_gi (List.mem_append_right _ (List.mem_of_getElem? (i := 187) (by decide +kernel))) rfl
theorem q_188 : Cond.methodLink "FileTree$Directories" 62 ⟨"FileTree$Inodes", "setSize", "(II)V"⟩ ∈ lw_g := lw_gi (List.mem_append_right _ (List.mem_of_getElem? (i := 188) (by decide +kernel))) rfl
theorem q_189 : Cond.instanceMethod ⟨"FileTree$Inodes", "setSize", "(II)V"⟩ ∈ lw_g := lw_gi (List.mem_append_right _ (List.mem_of_getElem? (i := 189) (by decide +kernel))) rfl
theorem q_190 : Cond.selects "FileTree$Inodes" ⟨"FileTree$Inodes", "setSize", "(II)V"⟩ ⟨"FileTree$Inodes", "setSize", "(II)V"⟩ ∈ lw_g := lw_gi (List.mem_append_right _ (List.mem_of_getElem? (i := 190) (by decide +kernel))) rfl
theorem q_191 : Cond.code ⟨"FileTree$Inodes", "setSize", "(II)V"⟩ prog_4_method_11_code 3 (Option.none : Option Jvm.ClassFile.FieldType) ∈ lw_g := lw_gi (List.mem_append_right _ (List.mem_of_getElem? (i := 191) (by decide +kernel))) rfl
theorem q_192 : Cond.methodLink "FileTree$Directories" 66 ⟨"FileTree$Disk", "setPart", "(III)V"⟩ ∈ lw_g := lw_gi (List.mem_append_right _ (List.mem_of_getElem? (i := 192) (by decide +kernel))) rfl
theorem q_193 : Cond.methodLink "FileTree$Directories" 70 ⟨"FileTree$Directories", "nameByte", "([BI)I"⟩ ∈ lw_g := lw_gi (List.mem_append_right _ (List.mem_of_getElem? (i := 193) (by decide +kernel))) rfl
theorem q_195 : Cond.instanceMethod ⟨"FileTree$Directories", "nameByte", "([BI)I"⟩ ∈ lw_g := lw_gi (List.mem_append_right _ (List.mem_of_getElem? (i := 195) (by decide +kernel))) rfl
theorem q_196 : Cond.code ⟨"FileTree$Directories", "nameByte", "([BI)I"⟩ prog_2_method_12_code 3 (Option.some Jvm.ClassFile.FieldType.int) ∈ lw_g := lw_gi (List.mem_append_right _ (List.mem_of_getElem? (i := 196) (by decide +kernel))) rfl
theorem q_197 : Cond.fieldLinkNest "FileTree$Directories" 85 "FileTree" "ABOVE" "[B" "FileTree" ∈ lw_tbl := List.mem_append_right _ (List.mem_of_getElem? (i := 197) (by decide +kernel))
theorem q_198 : Cond.laysStatic "FileTree" "ABOVE" "[B" ∈ lw_tbl := List.mem_append_right _ (List.mem_of_getElem? (i := 198) (by decide +kernel))
theorem q_199 : Cond.methodLink "FileTree$Directories" 88 ⟨"FileTree$Inodes", "addLinks", "(II)V"⟩ ∈ lw_g := lw_gi (List.mem_append_right _ (List.mem_of_getElem? (i := 199) (by decide +kernel))) rfl
theorem q_200 : Cond.instanceMethod ⟨"FileTree$Inodes", "addLinks", "(II)V"⟩ ∈ lw_g := lw_gi (List.mem_append_right _ (List.mem_of_getElem? (i := 200) (by decide +kernel))) rfl
theorem q_201 : Cond.selects "FileTree$Inodes" ⟨"FileTree$Inodes", "addLinks", "(II)V"⟩ ⟨"FileTree$Inodes", "addLinks", "(II)V"⟩ ∈ lw_g := lw_gi (List.mem_append_right _ (List.mem_of_getElem? (i := 201) (by decide +kernel))) rfl
theorem q_202 : Cond.code ⟨"FileTree$Inodes", "addLinks", "(II)V"⟩ prog_4_method_10_code 3 (Option.none : Option Jvm.ClassFile.FieldType) ∈ lw_g := lw_gi (List.mem_append_right _ (List.mem_of_getElem? (i := 202) (by decide +kernel))) rfl
theorem q_203 : Cond.methodLink "FileTree$Inodes" 41 ⟨"FileTree$Inodes", "linksOf", "(I)I"⟩ ∈ lw_g := lw_gi (List.mem_append_right _ (List.mem_of_getElem? (i := 203) (by decide +kernel))) rfl
theorem q_204 : Cond.instanceMethod ⟨"FileTree$Inodes", "linksOf", "(I)I"⟩ ∈ lw_g := lw_gi (List.mem_append_right _ (List.mem_of_getElem? (i := 204) (by decide +kernel))) rfl
theorem q_205 : Cond.selects "FileTree$Inodes" ⟨"FileTree$Inodes", "linksOf", "(I)I"⟩ ⟨"FileTree$Inodes", "linksOf", "(I)I"⟩ ∈ lw_g := lw_gi (List.mem_append_right _ (List.mem_of_getElem? (i := 205) (by decide +kernel))) rfl
theorem q_206 : Cond.code ⟨"FileTree$Inodes", "linksOf", "(I)I"⟩ prog_4_method_7_code 2 (Option.some Jvm.ClassFile.FieldType.int) ∈ lw_g := lw_gi (List.mem_append_right _ (List.mem_of_getElem? (i := 206) (by decide +kernel))) rfl
theorem q_207 : Cond.fieldLink "FileTree" 12 "FileTree" "directories" "LFileTree$Directories;" ∈ lw_g := lw_gi (List.mem_append_right _ (List.mem_of_getElem? (i := 207) (by decide +kernel))) rfl
theorem q_208 : Cond.fieldLink "FileTree" 20 "FileTree" "inodes" "LFileTree$Inodes;" ∈ lw_g := lw_gi (List.mem_append_right _ (List.mem_of_getElem? (i := 208) (by decide +kernel))) rfl
theorem q_209 : Cond.fieldLink "FileTree" 27 "FileTree" "disk" "LFileTree$Disk;" ∈ lw_g := lw_gi (List.mem_append_right _ (List.mem_of_getElem? (i := 209) (by decide +kernel))) rfl
theorem q_210 : Cond.fieldLink "FileTree" 31 "FileTree" "text" "LFileTree$Text;" ∈ lw_g := lw_gi (List.mem_append_right _ (List.mem_of_getElem? (i := 210) (by decide +kernel))) rfl
theorem q_211 : Cond.fieldLink "FileTree" 35 "FileTree" "buffer" "[B" ∈ lw_g := lw_gi (List.mem_append_right _ (List.mem_of_getElem? (i := 211) (by decide +kernel))) rfl
theorem q_223 : Cond.methodLink "FileTreeLaw" 15 ⟨"FileTree", "write", "(J)Z"⟩ ∈ lw_g := lw_gi (List.mem_append_right _ (List.mem_of_getElem? (i := 223) (by decide +kernel))) rfl
theorem q_224 : Cond.instanceMethod ⟨"FileTree", "write", "(J)Z"⟩ ∈ lw_g := lw_gi (List.mem_append_right _ (List.mem_of_getElem? (i := 224) (by decide +kernel))) rfl
theorem q_225 : Cond.selects "FileTree" ⟨"FileTree", "write", "(J)Z"⟩ ⟨"FileTree", "write", "(J)Z"⟩ ∈ lw_g := lw_gi (List.mem_append_right _ (List.mem_of_getElem? (i := 225) (by decide +kernel))) rfl
theorem q_226 : Cond.code ⟨"FileTree", "write", "(J)Z"⟩ prog_1_method_2_code 3 (Option.some Jvm.ClassFile.FieldType.boolean) ∈ lw_g := lw_gi (List.mem_append_right _ (List.mem_of_getElem? (i := 226) (by decide +kernel))) rfl
theorem q_227 : Cond.methodLink "FileTree" 52 ⟨"FileTree$Text", "append", "(J)Z"⟩ ∈ lw_g := lw_gi (List.mem_append_right _ (List.mem_of_getElem? (i := 227) (by decide +kernel))) rfl
theorem q_228 : Cond.instanceMethod ⟨"FileTree$Text", "append", "(J)Z"⟩ ∈ lw_g := lw_gi (List.mem_append_right _ (List.mem_of_getElem? (i := 228) (by decide +kernel))) rfl
theorem q_229 : Cond.selects "FileTree$Text" ⟨"FileTree$Text", "append", "(J)Z"⟩ ⟨"FileTree$Text", "append", "(J)Z"⟩ ∈ lw_g := lw_gi (List.mem_append_right _ (List.mem_of_getElem? (i := 229) (by decide +kernel))) rfl
theorem q_230 : Cond.code ⟨"FileTree$Text", "append", "(J)Z"⟩ prog_5_method_2_code 6 (Option.some Jvm.ClassFile.FieldType.boolean) ∈ lw_g := lw_gi (List.mem_append_right _ (List.mem_of_getElem? (i := 230) (by decide +kernel))) rfl
theorem q_231 : Cond.constantLong "FileTree$Text" 21 255 ∈ lw_g := lw_gi (List.mem_append_right _ (List.mem_of_getElem? (i := 231) (by decide +kernel))) rfl
theorem q_232 : Cond.methodLink "FileTreeLaw" 20 ⟨"FileTree", "find", "(I)I"⟩ ∈ lw_g := lw_gi (List.mem_append_right _ (List.mem_of_getElem? (i := 232) (by decide +kernel))) rfl
theorem q_233 : Cond.instanceMethod ⟨"FileTree", "find", "(I)I"⟩ ∈ lw_g := lw_gi (List.mem_append_right _ (List.mem_of_getElem? (i := 233) (by decide +kernel))) rfl
theorem q_234 : Cond.selects "FileTree" ⟨"FileTree", "find", "(I)I"⟩ ⟨"FileTree", "find", "(I)I"⟩ ∈ lw_g := lw_gi (List.mem_append_right _ (List.mem_of_getElem? (i := 234) (by decide +kernel))) rfl
theorem q_235 : Cond.code ⟨"FileTree", "find", "(I)I"⟩ prog_1_method_3_code 3 (Option.some Jvm.ClassFile.FieldType.int) ∈ lw_g := lw_gi (List.mem_append_right _ (List.mem_of_getElem? (i := 235) (by decide +kernel))) rfl
theorem q_236 : Cond.methodLink "FileTree" 60 ⟨"FileTree", "lead", "(III)I"⟩ ∈ lw_g := lw_gi (List.mem_append_right _ (List.mem_of_getElem? (i := 236) (by decide +kernel))) rfl
theorem q_238 : Cond.instanceMethod ⟨"FileTree", "lead", "(III)I"⟩ ∈ lw_g := lw_gi (List.mem_append_right _ (List.mem_of_getElem? (i := 238) (by decide +kernel))) rfl
theorem q_239 : Cond.code ⟨"FileTree", "lead", "(III)I"⟩ prog_1_method_18_code 7 (Option.some Jvm.ClassFile.FieldType.int) ∈ lw_g := lw_gi (List.mem_append_right _ (List.mem_of_getElem? (i := 239) (by decide +kernel))) rfl
theorem q_240 : Cond.methodLink "FileTree" 125 ⟨"FileTree$Inodes", "inUse", "(I)Z"⟩ ∈ lw_g := lw_gi (List.mem_append_right _ (List.mem_of_getElem? (i := 240) (by decide +kernel))) rfl
theorem q_241 : Cond.instanceMethod ⟨"FileTree$Inodes", "inUse", "(I)Z"⟩ ∈ lw_g := lw_gi (List.mem_append_right _ (List.mem_of_getElem? (i := 241) (by decide +kernel))) rfl
theorem q_242 : Cond.selects "FileTree$Inodes" ⟨"FileTree$Inodes", "inUse", "(I)Z"⟩ ⟨"FileTree$Inodes", "inUse", "(I)Z"⟩ ∈ lw_g := lw_gi (List.mem_append_right _ (List.mem_of_getElem? (i := 242) (by decide +kernel))) rfl
theorem q_243 : Cond.code ⟨"FileTree$Inodes", "inUse", "(I)Z"⟩ prog_4_method_3_code 2 (Option.some Jvm.ClassFile.FieldType.boolean) ∈ lw_g := lw_gi (List.mem_append_right _ (List.mem_of_getElem? (i := 243) (by decide +kernel))) rfl
theorem q_244 : Cond.methodLink "FileTree$Inodes" 22 ⟨"FileTree$Inodes", "kindOf", "(I)I"⟩ ∈ lw_g := lw_gi (List.mem_append_right _ (List.mem_of_getElem? (i := 244) (by decide +kernel))) rfl
theorem q_245 : Cond.methodLink "FileTree" 168 ⟨"FileTree$Text", "isPath", "(II)Z"⟩ ∈ lw_g := lw_gi (List.mem_append_right _ (List.mem_of_getElem? (i := 245) (by decide +kernel))) rfl
theorem q_246 : Cond.instanceMethod ⟨"FileTree$Text", "isPath", "(II)Z"⟩ ∈ lw_g := lw_gi (List.mem_append_right _ (List.mem_of_getElem? (i := 246) (by decide +kernel))) rfl
theorem q_247 : Cond.selects "FileTree$Text" ⟨"FileTree$Text", "isPath", "(II)Z"⟩ ⟨"FileTree$Text", "isPath", "(II)Z"⟩ ∈ lw_g := lw_gi (List.mem_append_right _ (List.mem_of_getElem? (i := 247) (by decide +kernel))) rfl
theorem q_248 : Cond.code ⟨"FileTree$Text", "isPath", "(II)Z"⟩ prog_5_method_6_code 4 (Option.some Jvm.ClassFile.FieldType.boolean) ∈ lw_g := lw_gi (List.mem_append_right _ (List.mem_of_getElem? (i := 248) (by decide +kernel))) rfl
theorem q_249 : Cond.methodLink "FileTree$Text" 27 ⟨"FileTree$Text", "byteAt", "(I)I"⟩ ∈ lw_g := lw_gi (List.mem_append_right _ (List.mem_of_getElem? (i := 249) (by decide +kernel))) rfl
theorem q_250 : Cond.instanceMethod ⟨"FileTree$Text", "byteAt", "(I)I"⟩ ∈ lw_g := lw_gi (List.mem_append_right _ (List.mem_of_getElem? (i := 250) (by decide +kernel))) rfl
theorem q_251 : Cond.selects "FileTree$Text" ⟨"FileTree$Text", "byteAt", "(I)I"⟩ ⟨"FileTree$Text", "byteAt", "(I)I"⟩ ∈ lw_g := lw_gi (List.mem_append_right _ (List.mem_of_getElem? (i := 251) (by decide +kernel))) rfl
theorem q_252 : Cond.code ⟨"FileTree$Text", "byteAt", "(I)I"⟩ prog_5_method_4_code 2 (Option.some Jvm.ClassFile.FieldType.int) ∈ lw_g := lw_gi (List.mem_append_right _ (List.mem_of_getElem? (i := 252) (by decide +kernel))) rfl
theorem q_253 : Cond.methodLink "FileTree" 171 ⟨"FileTree$Text", "byteAt", "(I)I"⟩ ∈ lw_g := lw_gi (List.mem_append_right _ (List.mem_of_getElem? (i := 253) (by decide +kernel))) rfl
theorem q_254 : Cond.methodLink "FileTree" 174 ⟨"FileTree$Text", "nameBegins", "(II)Z"⟩ ∈ lw_g := lw_gi (List.mem_append_right _ (List.mem_of_getElem? (i := 254) (by decide +kernel))) rfl
theorem q_255 : Cond.instanceMethod ⟨"FileTree$Text", "nameBegins", "(II)Z"⟩ ∈ lw_g := lw_gi (List.mem_append_right _ (List.mem_of_getElem? (i := 255) (by decide +kernel))) rfl
theorem q_256 : Cond.selects "FileTree$Text" ⟨"FileTree$Text", "nameBegins", "(II)Z"⟩ ⟨"FileTree$Text", "nameBegins", "(II)Z"⟩ ∈ lw_g := lw_gi (List.mem_append_right _ (List.mem_of_getElem? (i := 256) (by decide +kernel))) rfl
theorem q_257 : Cond.code ⟨"FileTree$Text", "nameBegins", "(II)Z"⟩ prog_5_method_7_code 3 (Option.some Jvm.ClassFile.FieldType.boolean) ∈ lw_g := lw_gi (List.mem_append_right _ (List.mem_of_getElem? (i := 257) (by decide +kernel))) rfl
theorem q_258 : Cond.methodLink "FileTree" 180 ⟨"FileTree$Text", "copyName", "([BII)V"⟩ ∈ lw_g := lw_gi (List.mem_append_right _ (List.mem_of_getElem? (i := 258) (by decide +kernel))) rfl
theorem q_259 : Cond.instanceMethod ⟨"FileTree$Text", "copyName", "([BII)V"⟩ ∈ lw_g := lw_gi (List.mem_append_right _ (List.mem_of_getElem? (i := 259) (by decide +kernel))) rfl
theorem q_260 : Cond.selects "FileTree$Text" ⟨"FileTree$Text", "copyName", "([BII)V"⟩ ⟨"FileTree$Text", "copyName", "([BII)V"⟩ ∈ lw_g := lw_gi (List.mem_append_right _ (List.mem_of_getElem? (i := 260) (by decide +kernel))) rfl
theorem q_261 : Cond.code ⟨"FileTree$Text", "copyName", "([BII)V"⟩ prog_5_method_8_code 6 (Option.none : Option Jvm.ClassFile.FieldType) ∈ lw_g := lw_gi (List.mem_append_right _ (List.mem_of_getElem? (i := 261) (by decide +kernel))) rfl
theorem q_262 : Cond.methodLink "FileTree" 74 ⟨"FileTree$Directories", "entryNamed", "(I[B)I"⟩ ∈ lw_g := lw_gi (List.mem_append_right _ (List.mem_of_getElem? (i := 262) (by decide +kernel))) rfl
theorem q_263 : Cond.instanceMethod ⟨"FileTree$Directories", "entryNamed", "(I[B)I"⟩ ∈ lw_g := lw_gi (List.mem_append_right _ (List.mem_of_getElem? (i := 263) (by decide +kernel))) rfl
theorem q_264 : Cond.selects "FileTree$Directories" ⟨"FileTree$Directories", "entryNamed", "(I[B)I"⟩ ⟨"FileTree$Directories", "entryNamed", "(I[B)I"⟩ ∈ lw_g := lw_gi (List.mem_append_right _ (List.mem_of_getElem? (i := 264) (by decide +kernel))) rfl
theorem q_265 : Cond.code ⟨"FileTree$Directories", "entryNamed", "(I[B)I"⟩ prog_2_method_2_code 6 (Option.some Jvm.ClassFile.FieldType.int) ∈ lw_g := lw_gi (List.mem_append_right _ (List.mem_of_getElem? (i := 265) (by decide +kernel))) rfl
theorem q_266 : Cond.methodLink "FileTree$Directories" 37 ⟨"FileTree$Directories", "hasName", "(I[B)Z"⟩ ∈ lw_g := lw_gi (List.mem_append_right _ (List.mem_of_getElem? (i := 266) (by decide +kernel))) rfl
theorem q_268 : Cond.instanceMethod ⟨"FileTree$Directories", "hasName", "(I[B)Z"⟩ ∈ lw_g := lw_gi (List.mem_append_right _ (List.mem_of_getElem? (i := 268) (by decide +kernel))) rfl
theorem q_269 : Cond.code ⟨"FileTree$Directories", "hasName", "(I[B)Z"⟩ prog_2_method_11_code 4 (Option.some Jvm.ClassFile.FieldType.boolean) ∈ lw_g := lw_gi (List.mem_append_right _ (List.mem_of_getElem? (i := 269) (by decide +kernel))) rfl
theorem q_270 : Cond.constant "FileTree" 78 65535 ∈ lw_g := lw_gi (List.mem_append_right _ (List.mem_of_getElem? (i := 270) (by decide +kernel))) rfl
theorem q_271 : Cond.methodLink "FileTree" 79 ⟨"FileTree$Disk", "partAt", "(II)I"⟩ ∈ lw_g := lw_gi (List.mem_append_right _ (List.mem_of_getElem? (i := 271) (by decide +kernel))) rfl
theorem q_272 : Cond.methodLink "FileTree" 64 ⟨"FileTree$Text", "empty", "()V"⟩ ∈ lw_g := lw_gi (List.mem_append_right _ (List.mem_of_getElem? (i := 272) (by decide +kernel))) rfl
theorem q_273 : Cond.instanceMethod ⟨"FileTree$Text", "empty", "()V"⟩ ∈ lw_g := lw_gi (List.mem_append_right _ (List.mem_of_getElem? (i := 273) (by decide +kernel))) rfl
theorem q_274 : Cond.selects "FileTree$Text" ⟨"FileTree$Text", "empty", "()V"⟩ ⟨"FileTree$Text", "empty", "()V"⟩ ∈ lw_g := lw_gi (List.mem_append_right _ (List.mem_of_getElem? (i := 274) (by decide +kernel))) rfl
theorem q_275 : Cond.code ⟨"FileTree$Text", "empty", "()V"⟩ prog_5_method_3_code 1 (Option.none : Option Jvm.ClassFile.FieldType) ∈ lw_g := lw_gi (List.mem_append_right _ (List.mem_of_getElem? (i := 275) (by decide +kernel))) rfl
theorem q_276 : Cond.methodLink "FileTreeLaw" 25 ⟨"FileTree", "create", "(IIII)I"⟩ ∈ lw_g := lw_gi (List.mem_append_right _ (List.mem_of_getElem? (i := 276) (by decide +kernel))) rfl
theorem q_277 : Cond.instanceMethod ⟨"FileTree", "create", "(IIII)I"⟩ ∈ lw_g := lw_gi (List.mem_append_right _ (List.mem_of_getElem? (i := 277) (by decide +kernel))) rfl
theorem q_278 : Cond.selects "FileTree" ⟨"FileTree", "create", "(IIII)I"⟩ ⟨"FileTree", "create", "(IIII)I"⟩ ∈ lw_g := lw_gi (List.mem_append_right _ (List.mem_of_getElem? (i := 278) (by decide +kernel))) rfl
theorem q_279 : Cond.code ⟨"FileTree", "create", "(IIII)I"⟩ prog_1_method_4_code 9 (Option.some Jvm.ClassFile.FieldType.int) ∈ lw_g := lw_gi (List.mem_append_right _ (List.mem_of_getElem? (i := 279) (by decide +kernel))) rfl
theorem q_280 : Cond.methodLink "FileTree" 67 ⟨"FileTree$Text", "cutLastName", "(II)I"⟩ ∈ lw_g := lw_gi (List.mem_append_right _ (List.mem_of_getElem? (i := 280) (by decide +kernel))) rfl
theorem q_281 : Cond.instanceMethod ⟨"FileTree$Text", "cutLastName", "(II)I"⟩ ∈ lw_g := lw_gi (List.mem_append_right _ (List.mem_of_getElem? (i := 281) (by decide +kernel))) rfl
theorem q_282 : Cond.selects "FileTree$Text" ⟨"FileTree$Text", "cutLastName", "(II)I"⟩ ⟨"FileTree$Text", "cutLastName", "(II)I"⟩ ∈ lw_g := lw_gi (List.mem_append_right _ (List.mem_of_getElem? (i := 282) (by decide +kernel))) rfl
theorem q_283 : Cond.code ⟨"FileTree$Text", "cutLastName", "(II)I"⟩ prog_5_method_9_code 5 (Option.some Jvm.ClassFile.FieldType.int) ∈ lw_g := lw_gi (List.mem_append_right _ (List.mem_of_getElem? (i := 283) (by decide +kernel))) rfl
theorem q_284 : Cond.methodLink "FileTree$Text" 31 ⟨"FileTree$Text", "isPath", "(II)Z"⟩ ∈ lw_g := lw_gi (List.mem_append_right _ (List.mem_of_getElem? (i := 284) (by decide +kernel))) rfl
theorem q_285 : Cond.methodLink "FileTree$Text" 35 ⟨"FileTree$Text", "nameBegins", "(II)Z"⟩ ∈ lw_g := lw_gi (List.mem_append_right _ (List.mem_of_getElem? (i := 285) (by decide +kernel))) rfl
theorem q_286 : Cond.methodLink "FileTree$Text" 38 ⟨"FileTree$Text", "copyName", "([BII)V"⟩ ∈ lw_g := lw_gi (List.mem_append_right _ (List.mem_of_getElem? (i := 286) (by decide +kernel))) rfl
theorem q_287 : Cond.methodLink "FileTree" 82 ⟨"FileTree$Inodes", "kindOf", "(I)I"⟩ ∈ lw_g := lw_gi (List.mem_append_right _ (List.mem_of_getElem? (i := 287) (by decide +kernel))) rfl
theorem q_288 : Cond.methodLink "FileTree" 86 ⟨"FileTree$Inodes", "leastFree", "()I"⟩ ∈ lw_g := lw_gi (List.mem_append_right _ (List.mem_of_getElem? (i := 288) (by decide +kernel))) rfl
theorem q_289 : Cond.instanceMethod ⟨"FileTree$Inodes", "leastFree", "()I"⟩ ∈ lw_g := lw_gi (List.mem_append_right _ (List.mem_of_getElem? (i := 289) (by decide +kernel))) rfl
theorem q_290 : Cond.selects "FileTree$Inodes" ⟨"FileTree$Inodes", "leastFree", "()I"⟩ ⟨"FileTree$Inodes", "leastFree", "()I"⟩ ∈ lw_g := lw_gi (List.mem_append_right _ (List.mem_of_getElem? (i := 290) (by decide +kernel))) rfl
theorem q_291 : Cond.code ⟨"FileTree$Inodes", "leastFree", "()I"⟩ prog_4_method_13_code 2 (Option.some Jvm.ClassFile.FieldType.int) ∈ lw_g := lw_gi (List.mem_append_right _ (List.mem_of_getElem? (i := 291) (by decide +kernel))) rfl
theorem q_292 : Cond.methodLink "FileTree$Inodes" 52 ⟨"FileTree$Inodes", "inUse", "(I)Z"⟩ ∈ lw_g := lw_gi (List.mem_append_right _ (List.mem_of_getElem? (i := 292) (by decide +kernel))) rfl
theorem q_293 : Cond.methodLink "FileTree" 90 ⟨"FileTree$Directories", "hasRoom", "(II)Z"⟩ ∈ lw_g := lw_gi (List.mem_append_right _ (List.mem_of_getElem? (i := 293) (by decide +kernel))) rfl
theorem q_294 : Cond.instanceMethod ⟨"FileTree$Directories", "hasRoom", "(II)Z"⟩ ∈ lw_g := lw_gi (List.mem_append_right _ (List.mem_of_getElem? (i := 294) (by decide +kernel))) rfl
theorem q_295 : Cond.selects "FileTree$Directories" ⟨"FileTree$Directories", "hasRoom", "(II)Z"⟩ ⟨"FileTree$Directories", "hasRoom", "(II)Z"⟩ ∈ lw_g := lw_gi (List.mem_append_right _ (List.mem_of_getElem? (i := 295) (by decide +kernel))) rfl
theorem q_296 : Cond.code ⟨"FileTree$Directories", "hasRoom", "(II)Z"⟩ prog_2_method_4_code 5 (Option.some Jvm.ClassFile.FieldType.boolean) ∈ lw_g := lw_gi (List.mem_append_right _ (List.mem_of_getElem? (i := 296) (by decide +kernel))) rfl
theorem q_297 : Cond.methodLink "FileTree$Directories" 44 ⟨"FileTree$Inodes", "linksOf", "(I)I"⟩ ∈ lw_g := lw_gi (List.mem_append_right _ (List.mem_of_getElem? (i := 297) (by decide +kernel))) rfl
theorem q_298 : Cond.constant "FileTree$Directories" 50 274416 ∈ lw_g := lw_gi (List.mem_append_right _ (List.mem_of_getElem? (i := 298) (by decide +kernel))) rfl
theorem q_299 : Cond.methodLink "FileTree$Directories" 51 ⟨"FileTree$Inodes", "blocksToAdd", "(I)I"⟩ ∈ lw_g := lw_gi (List.mem_append_right _ (List.mem_of_getElem? (i := 299) (by decide +kernel))) rfl
theorem q_300 : Cond.methodLink "FileTree$Directories" 54 ⟨"FileTree$Disk", "freeBlocks", "()I"⟩ ∈ lw_g := lw_gi (List.mem_append_right _ (List.mem_of_getElem? (i := 300) (by decide +kernel))) rfl
theorem q_301 : Cond.methodLink "FileTree" 94 ⟨"FileTree$Directories", "addEntry", "(I[BI)V"⟩ ∈ lw_g := lw_gi (List.mem_append_right _ (List.mem_of_getElem? (i := 301) (by decide +kernel))) rfl
theorem q_302 : Cond.methodLink "FileTreeLaw" 30 ⟨"FileTree", "link", "(I)I"⟩ ∈ lw_g := lw_gi (List.mem_append_right _ (List.mem_of_getElem? (i := 302) (by decide +kernel))) rfl
theorem q_303 : Cond.instanceMethod ⟨"FileTree", "link", "(I)I"⟩ ∈ lw_g := lw_gi (List.mem_append_right _ (List.mem_of_getElem? (i := 303) (by decide +kernel))) rfl
theorem q_304 : Cond.selects "FileTree" ⟨"FileTree", "link", "(I)I"⟩ ⟨"FileTree", "link", "(I)I"⟩ ∈ lw_g := lw_gi (List.mem_append_right _ (List.mem_of_getElem? (i := 304) (by decide +kernel))) rfl
theorem q_305 : Cond.code ⟨"FileTree", "link", "(I)I"⟩ prog_1_method_5_code 5 (Option.some Jvm.ClassFile.FieldType.int) ∈ lw_g := lw_gi (List.mem_append_right _ (List.mem_of_getElem? (i := 305) (by decide +kernel))) rfl
theorem q_306 : Cond.methodLink "FileTree" 98 ⟨"FileTree$Text", "firstBlank", "()I"⟩ ∈ lw_g := lw_gi (List.mem_append_right _ (List.mem_of_getElem? (i := 306) (by decide +kernel))) rfl
theorem q_307 : Cond.instanceMethod ⟨"FileTree$Text", "firstBlank", "()I"⟩ ∈ lw_g := lw_gi (List.mem_append_right _ (List.mem_of_getElem? (i := 307) (by decide +kernel))) rfl
theorem q_308 : Cond.selects "FileTree$Text" ⟨"FileTree$Text", "firstBlank", "()I"⟩ ⟨"FileTree$Text", "firstBlank", "()I"⟩ ∈ lw_g := lw_gi (List.mem_append_right _ (List.mem_of_getElem? (i := 308) (by decide +kernel))) rfl
theorem q_309 : Cond.code ⟨"FileTree$Text", "firstBlank", "()I"⟩ prog_5_method_5_code 2 (Option.some Jvm.ClassFile.FieldType.int) ∈ lw_g := lw_gi (List.mem_append_right _ (List.mem_of_getElem? (i := 309) (by decide +kernel))) rfl
theorem q_310 : Cond.methodLink "FileTree" 101 ⟨"FileTree$Inodes", "linksOf", "(I)I"⟩ ∈ lw_g := lw_gi (List.mem_append_right _ (List.mem_of_getElem? (i := 310) (by decide +kernel))) rfl
theorem q_311 : Cond.methodLink "FileTree" 104 ⟨"FileTree$Inodes", "addLinks", "(II)V"⟩ ∈ lw_g := lw_gi (List.mem_append_right _ (List.mem_of_getElem? (i := 311) (by decide +kernel))) rfl
theorem q_312 : Cond.methodLink "FileTreeLaw" 34 ⟨"FileTree", "unlink", "(I)I"⟩ ∈ lw_g := lw_gi (List.mem_append_right _ (List.mem_of_getElem? (i := 312) (by decide +kernel))) rfl
theorem q_313 : Cond.instanceMethod ⟨"FileTree", "unlink", "(I)I"⟩ ∈ lw_g := lw_gi (List.mem_append_right _ (List.mem_of_getElem? (i := 313) (by decide +kernel))) rfl
theorem q_314 : Cond.selects "FileTree" ⟨"FileTree", "unlink", "(I)I"⟩ ⟨"FileTree", "unlink", "(I)I"⟩ ∈ lw_g := lw_gi (List.mem_append_right _ (List.mem_of_getElem? (i := 314) (by decide +kernel))) rfl
theorem q_315 : Cond.code ⟨"FileTree", "unlink", "(I)I"⟩ prog_1_method_6_code 5 (Option.some Jvm.ClassFile.FieldType.int) ∈ lw_g := lw_gi (List.mem_append_right _ (List.mem_of_getElem? (i := 315) (by decide +kernel))) rfl
theorem q_316 : Cond.methodLink "FileTree" 107 ⟨"FileTree$Text", "lastIsDots", "()Z"⟩ ∈ lw_g := lw_gi (List.mem_append_right _ (List.mem_of_getElem? (i := 316) (by decide +kernel))) rfl
theorem q_317 : Cond.instanceMethod ⟨"FileTree$Text", "lastIsDots", "()Z"⟩ ∈ lw_g := lw_gi (List.mem_append_right _ (List.mem_of_getElem? (i := 317) (by decide +kernel))) rfl
theorem q_318 : Cond.selects "FileTree$Text" ⟨"FileTree$Text", "lastIsDots", "()Z"⟩ ⟨"FileTree$Text", "lastIsDots", "()Z"⟩ ∈ lw_g := lw_gi (List.mem_append_right _ (List.mem_of_getElem? (i := 318) (by decide +kernel))) rfl
theorem q_319 : Cond.code ⟨"FileTree$Text", "lastIsDots", "()Z"⟩ prog_5_method_10_code 1 (Option.some Jvm.ClassFile.FieldType.boolean) ∈ lw_g := lw_gi (List.mem_append_right _ (List.mem_of_getElem? (i := 319) (by decide +kernel))) rfl
theorem q_320 : Cond.methodLink "FileTree" 111 ⟨"FileTree$Directories", "hasOnlyItsTwo", "(I)Z"⟩ ∈ lw_g := lw_gi (List.mem_append_right _ (List.mem_of_getElem? (i := 320) (by decide +kernel))) rfl
theorem q_321 : Cond.instanceMethod ⟨"FileTree$Directories", "hasOnlyItsTwo", "(I)Z"⟩ ∈ lw_g := lw_gi (List.mem_append_right _ (List.mem_of_getElem? (i := 321) (by decide +kernel))) rfl
theorem q_322 : Cond.selects "FileTree$Directories" ⟨"FileTree$Directories", "hasOnlyItsTwo", "(I)Z"⟩ ⟨"FileTree$Directories", "hasOnlyItsTwo", "(I)Z"⟩ ∈ lw_g := lw_gi (List.mem_append_right _ (List.mem_of_getElem? (i := 322) (by decide +kernel))) rfl
theorem q_323 : Cond.code ⟨"FileTree$Directories", "hasOnlyItsTwo", "(I)Z"⟩ prog_2_method_3_code 4 (Option.some Jvm.ClassFile.FieldType.boolean) ∈ lw_g := lw_gi (List.mem_append_right _ (List.mem_of_getElem? (i := 323) (by decide +kernel))) rfl
theorem q_324 : Cond.methodLink "FileTree" 115 ⟨"FileTree$Directories", "end", "(II)V"⟩ ∈ lw_g := lw_gi (List.mem_append_right _ (List.mem_of_getElem? (i := 324) (by decide +kernel))) rfl
theorem q_325 : Cond.instanceMethod ⟨"FileTree$Directories", "end", "(II)V"⟩ ∈ lw_g := lw_gi (List.mem_append_right _ (List.mem_of_getElem? (i := 325) (by decide +kernel))) rfl
theorem q_326 : Cond.selects "FileTree$Directories" ⟨"FileTree$Directories", "end", "(II)V"⟩ ⟨"FileTree$Directories", "end", "(II)V"⟩ ∈ lw_g := lw_gi (List.mem_append_right _ (List.mem_of_getElem? (i := 326) (by decide +kernel))) rfl
theorem q_327 : Cond.code ⟨"FileTree$Directories", "end", "(II)V"⟩ prog_2_method_8_code 3 (Option.none : Option Jvm.ClassFile.FieldType) ∈ lw_g := lw_gi (List.mem_append_right _ (List.mem_of_getElem? (i := 327) (by decide +kernel))) rfl
theorem q_328 : Cond.methodLink "FileTree$Directories" 91 ⟨"FileTree$Directories", "wipeEntry", "(I)V"⟩ ∈ lw_g := lw_gi (List.mem_append_right _ (List.mem_of_getElem? (i := 328) (by decide +kernel))) rfl
theorem q_329 : Cond.instanceMethod ⟨"FileTree$Directories", "wipeEntry", "(I)V"⟩ ∈ lw_g := lw_gi (List.mem_append_right _ (List.mem_of_getElem? (i := 329) (by decide +kernel))) rfl
theorem q_330 : Cond.selects "FileTree$Directories" ⟨"FileTree$Directories", "wipeEntry", "(I)V"⟩ ⟨"FileTree$Directories", "wipeEntry", "(I)V"⟩ ∈ lw_g := lw_gi (List.mem_append_right _ (List.mem_of_getElem? (i := 330) (by decide +kernel))) rfl
theorem q_331 : Cond.code ⟨"FileTree$Directories", "wipeEntry", "(I)V"⟩ prog_2_method_6_code 2 (Option.none : Option Jvm.ClassFile.FieldType) ∈ lw_g := lw_gi (List.mem_append_right _ (List.mem_of_getElem? (i := 331) (by decide +kernel))) rfl
theorem q_332 : Cond.methodLink "FileTree$Directories" 74 ⟨"FileTree$Disk", "wipe", "(II)V"⟩ ∈ lw_g := lw_gi (List.mem_append_right _ (List.mem_of_getElem? (i := 332) (by decide +kernel))) rfl
theorem q_333 : Cond.methodLink "FileTree" 118 ⟨"FileTree$Directories", "wipeEntry", "(I)V"⟩ ∈ lw_g := lw_gi (List.mem_append_right _ (List.mem_of_getElem? (i := 333) (by decide +kernel))) rfl
theorem q_334 : Cond.methodLink "FileTree" 122 ⟨"FileTree$Inodes", "freeIfLeft", "(I)Z"⟩ ∈ lw_g := lw_gi (List.mem_append_right _ (List.mem_of_getElem? (i := 334) (by decide +kernel))) rfl
theorem q_335 : Cond.instanceMethod ⟨"FileTree$Inodes", "freeIfLeft", "(I)Z"⟩ ∈ lw_g := lw_gi (List.mem_append_right _ (List.mem_of_getElem? (i := 335) (by decide +kernel))) rfl
theorem q_336 : Cond.selects "FileTree$Inodes" ⟨"FileTree$Inodes", "freeIfLeft", "(I)Z"⟩ ⟨"FileTree$Inodes", "freeIfLeft", "(I)Z"⟩ ∈ lw_g := lw_gi (List.mem_append_right _ (List.mem_of_getElem? (i := 336) (by decide +kernel))) rfl
theorem q_337 : Cond.code ⟨"FileTree$Inodes", "freeIfLeft", "(I)Z"⟩ prog_4_method_15_code 2 (Option.some Jvm.ClassFile.FieldType.boolean) ∈ lw_g := lw_gi (List.mem_append_right _ (List.mem_of_getElem? (i := 337) (by decide +kernel))) rfl
theorem q_338 : Cond.methodLink "FileTree$Inodes" 55 ⟨"FileTree$Inodes", "heldOf", "(I)I"⟩ ∈ lw_g := lw_gi (List.mem_append_right _ (List.mem_of_getElem? (i := 338) (by decide +kernel))) rfl
theorem q_339 : Cond.instanceMethod ⟨"FileTree$Inodes", "heldOf", "(I)I"⟩ ∈ lw_g := lw_gi (List.mem_append_right _ (List.mem_of_getElem? (i := 339) (by decide +kernel))) rfl
theorem q_340 : Cond.selects "FileTree$Inodes" ⟨"FileTree$Inodes", "heldOf", "(I)I"⟩ ⟨"FileTree$Inodes", "heldOf", "(I)I"⟩ ∈ lw_g := lw_gi (List.mem_append_right _ (List.mem_of_getElem? (i := 340) (by decide +kernel))) rfl
theorem q_341 : Cond.code ⟨"FileTree$Inodes", "heldOf", "(I)I"⟩ prog_4_method_9_code 2 (Option.some Jvm.ClassFile.FieldType.int) ∈ lw_g := lw_gi (List.mem_append_right _ (List.mem_of_getElem? (i := 341) (by decide +kernel))) rfl
theorem q_342 : Cond.methodLink "FileTree$Inodes" 58 ⟨"FileTree$Inodes", "dropBlocks", "(I)V"⟩ ∈ lw_g := lw_gi (List.mem_append_right _ (List.mem_of_getElem? (i := 342) (by decide +kernel))) rfl
theorem q_343 : Cond.instanceMethod ⟨"FileTree$Inodes", "dropBlocks", "(I)V"⟩ ∈ lw_g := lw_gi (List.mem_append_right _ (List.mem_of_getElem? (i := 343) (by decide +kernel))) rfl
theorem q_344 : Cond.selects "FileTree$Inodes" ⟨"FileTree$Inodes", "dropBlocks", "(I)V"⟩ ⟨"FileTree$Inodes", "dropBlocks", "(I)V"⟩ ∈ lw_g := lw_gi (List.mem_append_right _ (List.mem_of_getElem? (i := 344) (by decide +kernel))) rfl
theorem q_345 : Cond.code ⟨"FileTree$Inodes", "dropBlocks", "(I)V"⟩ prog_4_method_16_code 3 (Option.none : Option Jvm.ClassFile.FieldType) ∈ lw_g := lw_gi (List.mem_append_right _ (List.mem_of_getElem? (i := 345) (by decide +kernel))) rfl
theorem q_346 : Cond.methodLink "FileTree$Inodes" 68 ⟨"FileTree$Disk", "giveBlock", "(I)V"⟩ ∈ lw_g := lw_gi (List.mem_append_right _ (List.mem_of_getElem? (i := 346) (by decide +kernel))) rfl
theorem q_347 : Cond.instanceMethod ⟨"FileTree$Disk", "giveBlock", "(I)V"⟩ ∈ lw_g := lw_gi (List.mem_append_right _ (List.mem_of_getElem? (i := 347) (by decide +kernel))) rfl
theorem q_348 : Cond.selects "FileTree$Disk" ⟨"FileTree$Disk", "giveBlock", "(I)V"⟩ ⟨"FileTree$Disk", "giveBlock", "(I)V"⟩ ∈ lw_g := lw_gi (List.mem_append_right _ (List.mem_of_getElem? (i := 348) (by decide +kernel))) rfl
theorem q_349 : Cond.code ⟨"FileTree$Disk", "giveBlock", "(I)V"⟩ prog_3_method_9_code 2 (Option.none : Option Jvm.ClassFile.FieldType) ∈ lw_g := lw_gi (List.mem_append_right _ (List.mem_of_getElem? (i := 349) (by decide +kernel))) rfl
theorem q_350 : Cond.methodLink "FileTree$Inodes" 62 ⟨"FileTree$Disk", "wipe", "(II)V"⟩ ∈ lw_g := lw_gi (List.mem_append_right _ (List.mem_of_getElem? (i := 350) (by decide +kernel))) rfl
theorem q_351 : Cond.methodLink "FileTreeLaw" 38 ⟨"FileTree", "hold", "(I)Z"⟩ ∈ lw_g := lw_gi (List.mem_append_right _ (List.mem_of_getElem? (i := 351) (by decide +kernel))) rfl
theorem q_352 : Cond.instanceMethod ⟨"FileTree", "hold", "(I)Z"⟩ ∈ lw_g := lw_gi (List.mem_append_right _ (List.mem_of_getElem? (i := 352) (by decide +kernel))) rfl
theorem q_353 : Cond.selects "FileTree" ⟨"FileTree", "hold", "(I)Z"⟩ ⟨"FileTree", "hold", "(I)Z"⟩ ∈ lw_g := lw_gi (List.mem_append_right _ (List.mem_of_getElem? (i := 353) (by decide +kernel))) rfl
theorem q_354 : Cond.code ⟨"FileTree", "hold", "(I)Z"⟩ prog_1_method_7_code 2 (Option.some Jvm.ClassFile.FieldType.boolean) ∈ lw_g := lw_gi (List.mem_append_right _ (List.mem_of_getElem? (i := 354) (by decide +kernel))) rfl
theorem q_355 : Cond.methodLink "FileTree" 128 ⟨"FileTree$Inodes", "addHeld", "(II)V"⟩ ∈ lw_g := lw_gi (List.mem_append_right _ (List.mem_of_getElem? (i := 355) (by decide +kernel))) rfl
theorem q_356 : Cond.instanceMethod ⟨"FileTree$Inodes", "addHeld", "(II)V"⟩ ∈ lw_g := lw_gi (List.mem_append_right _ (List.mem_of_getElem? (i := 356) (by decide +kernel))) rfl
theorem q_357 : Cond.selects "FileTree$Inodes" ⟨"FileTree$Inodes", "addHeld", "(II)V"⟩ ⟨"FileTree$Inodes", "addHeld", "(II)V"⟩ ∈ lw_g := lw_gi (List.mem_append_right _ (List.mem_of_getElem? (i := 357) (by decide +kernel))) rfl
theorem q_358 : Cond.code ⟨"FileTree$Inodes", "addHeld", "(II)V"⟩ prog_4_method_12_code 3 (Option.none : Option Jvm.ClassFile.FieldType) ∈ lw_g := lw_gi (List.mem_append_right _ (List.mem_of_getElem? (i := 358) (by decide +kernel))) rfl
theorem q_359 : Cond.methodLink "FileTreeLaw" 43 ⟨"FileTree", "leave", "(I)Z"⟩ ∈ lw_g := lw_gi (List.mem_append_right _ (List.mem_of_getElem? (i := 359) (by decide +kernel))) rfl
theorem q_360 : Cond.instanceMethod ⟨"FileTree", "leave", "(I)Z"⟩ ∈ lw_g := lw_gi (List.mem_append_right _ (List.mem_of_getElem? (i := 360) (by decide +kernel))) rfl
theorem q_361 : Cond.selects "FileTree" ⟨"FileTree", "leave", "(I)Z"⟩ ⟨"FileTree", "leave", "(I)Z"⟩ ∈ lw_g := lw_gi (List.mem_append_right _ (List.mem_of_getElem? (i := 361) (by decide +kernel))) rfl
theorem q_362 : Cond.code ⟨"FileTree", "leave", "(I)Z"⟩ prog_1_method_8_code 2 (Option.some Jvm.ClassFile.FieldType.boolean) ∈ lw_g := lw_gi (List.mem_append_right _ (List.mem_of_getElem? (i := 362) (by decide +kernel))) rfl
theorem q_363 : Cond.methodLink "FileTree" 131 ⟨"FileTree$Inodes", "heldOf", "(I)I"⟩ ∈ lw_g := lw_gi (List.mem_append_right _ (List.mem_of_getElem? (i := 363) (by decide +kernel))) rfl
theorem q_364 : Cond.methodLink "FileTreeLaw" 47 ⟨"FileTree", "read", "(III)I"⟩ ∈ lw_g := lw_gi (List.mem_append_right _ (List.mem_of_getElem? (i := 364) (by decide +kernel))) rfl
theorem q_365 : Cond.instanceMethod ⟨"FileTree", "read", "(III)I"⟩ ∈ lw_g := lw_gi (List.mem_append_right _ (List.mem_of_getElem? (i := 365) (by decide +kernel))) rfl
theorem q_366 : Cond.selects "FileTree" ⟨"FileTree", "read", "(III)I"⟩ ⟨"FileTree", "read", "(III)I"⟩ ∈ lw_g := lw_gi (List.mem_append_right _ (List.mem_of_getElem? (i := 366) (by decide +kernel))) rfl
theorem q_367 : Cond.code ⟨"FileTree", "read", "(III)I"⟩ prog_1_method_9_code 6 (Option.some Jvm.ClassFile.FieldType.int) ∈ lw_g := lw_gi (List.mem_append_right _ (List.mem_of_getElem? (i := 367) (by decide +kernel))) rfl
theorem q_368 : Cond.methodLink "FileTree" 134 ⟨"FileTree$Inodes", "sizeOf", "(I)I"⟩ ∈ lw_g := lw_gi (List.mem_append_right _ (List.mem_of_getElem? (i := 368) (by decide +kernel))) rfl
theorem q_369 : Cond.methodLink "FileTree" 137 ⟨"java/lang/Math", "min", "(II)I"⟩ ∈ lw_g := lw_gi (List.mem_append_right _ (List.mem_of_getElem? (i := 369) (by decide +kernel))) rfl
theorem q_370 : Cond.static ⟨"java/lang/Math", "min", "(II)I"⟩ ∈ lw_g := lw_gi (List.mem_append_right _ (List.mem_of_getElem? (i := 370) (by decide +kernel))) rfl
theorem q_371 : Cond.code ⟨"java/lang/Math", "min", "(II)I"⟩ prog_9_method_69_code 2 (Option.some Jvm.ClassFile.FieldType.int) ∈ lw_g := lw_gi (List.mem_append_right _ (List.mem_of_getElem? (i := 371) (by decide +kernel))) rfl
theorem q_372 : Cond.methodLink "FileTree" 142 ⟨"FileTree$Inodes", "bring", "(III[B)I"⟩ ∈ lw_g := lw_gi (List.mem_append_right _ (List.mem_of_getElem? (i := 372) (by decide +kernel))) rfl
theorem q_373 : Cond.instanceMethod ⟨"FileTree$Inodes", "bring", "(III[B)I"⟩ ∈ lw_g := lw_gi (List.mem_append_right _ (List.mem_of_getElem? (i := 373) (by decide +kernel))) rfl
theorem q_374 : Cond.selects "FileTree$Inodes" ⟨"FileTree$Inodes", "bring", "(III[B)I"⟩ ⟨"FileTree$Inodes", "bring", "(III[B)I"⟩ ∈ lw_g := lw_gi (List.mem_append_right _ (List.mem_of_getElem? (i := 374) (by decide +kernel))) rfl
theorem q_375 : Cond.code ⟨"FileTree$Inodes", "bring", "(III[B)I"⟩ prog_4_method_20_code 11 (Option.some Jvm.ClassFile.FieldType.int) ∈ lw_g := lw_gi (List.mem_append_right _ (List.mem_of_getElem? (i := 375) (by decide +kernel))) rfl
theorem q_376 : Cond.methodLink "FileTree$Inodes" 81 ⟨"java/lang/Math", "min", "(II)I"⟩ ∈ lw_g := lw_gi (List.mem_append_right _ (List.mem_of_getElem? (i := 376) (by decide +kernel))) rfl
theorem q_377 : Cond.methodLink "FileTree$Inodes" 86 ⟨"java/lang/Math", "max", "(II)I"⟩ ∈ lw_g := lw_gi (List.mem_append_right _ (List.mem_of_getElem? (i := 377) (by decide +kernel))) rfl
theorem q_378 : Cond.static ⟨"java/lang/Math", "max", "(II)I"⟩ ∈ lw_g := lw_gi (List.mem_append_right _ (List.mem_of_getElem? (i := 378) (by decide +kernel))) rfl
theorem q_379 : Cond.code ⟨"java/lang/Math", "max", "(II)I"⟩ prog_9_method_65_code 2 (Option.some Jvm.ClassFile.FieldType.int) ∈ lw_g := lw_gi (List.mem_append_right _ (List.mem_of_getElem? (i := 379) (by decide +kernel))) rfl
theorem q_380 : Cond.methodLink "FileTree$Inodes" 89 ⟨"FileTree$Inodes", "placeOfByte", "(II)I"⟩ ∈ lw_g := lw_gi (List.mem_append_right _ (List.mem_of_getElem? (i := 380) (by decide +kernel))) rfl
theorem q_381 : Cond.methodLink "FileTreeLaw" 52 ⟨"FileTree", "save", "(III)I"⟩ ∈ lw_g := lw_gi (List.mem_append_right _ (List.mem_of_getElem? (i := 381) (by decide +kernel))) rfl
theorem q_382 : Cond.instanceMethod ⟨"FileTree", "save", "(III)I"⟩ ∈ lw_g := lw_gi (List.mem_append_right _ (List.mem_of_getElem? (i := 382) (by decide +kernel))) rfl
theorem q_383 : Cond.selects "FileTree" ⟨"FileTree", "save", "(III)I"⟩ ⟨"FileTree", "save", "(III)I"⟩ ∈ lw_g := lw_gi (List.mem_append_right _ (List.mem_of_getElem? (i := 383) (by decide +kernel))) rfl
theorem q_384 : Cond.code ⟨"FileTree", "save", "(III)I"⟩ prog_1_method_10_code 4 (Option.some Jvm.ClassFile.FieldType.int) ∈ lw_g := lw_gi (List.mem_append_right _ (List.mem_of_getElem? (i := 384) (by decide +kernel))) rfl
theorem q_385 : Cond.constant "FileTree" 146 274432 ∈ lw_g := lw_gi (List.mem_append_right _ (List.mem_of_getElem? (i := 385) (by decide +kernel))) rfl
theorem q_386 : Cond.methodLink "FileTree" 147 ⟨"FileTree$Inodes", "put", "(III[B)I"⟩ ∈ lw_g := lw_gi (List.mem_append_right _ (List.mem_of_getElem? (i := 386) (by decide +kernel))) rfl
theorem q_387 : Cond.instanceMethod ⟨"FileTree$Inodes", "put", "(III[B)I"⟩ ∈ lw_g := lw_gi (List.mem_append_right _ (List.mem_of_getElem? (i := 387) (by decide +kernel))) rfl
theorem q_388 : Cond.selects "FileTree$Inodes" ⟨"FileTree$Inodes", "put", "(III[B)I"⟩ ⟨"FileTree$Inodes", "put", "(III[B)I"⟩ ∈ lw_g := lw_gi (List.mem_append_right _ (List.mem_of_getElem? (i := 388) (by decide +kernel))) rfl
theorem q_389 : Cond.code ⟨"FileTree$Inodes", "put", "(III[B)I"⟩ prog_4_method_21_code 11 (Option.some Jvm.ClassFile.FieldType.int) ∈ lw_g := lw_gi (List.mem_append_right _ (List.mem_of_getElem? (i := 389) (by decide +kernel))) rfl
theorem q_390 : Cond.methodLink "FileTree$Inodes" 92 ⟨"FileTree$Inodes", "addBlock", "(II)Z"⟩ ∈ lw_g := lw_gi (List.mem_append_right _ (List.mem_of_getElem? (i := 390) (by decide +kernel))) rfl
theorem q_391 : Cond.methodLink "FileTree$Inodes" 96 ⟨"FileTree$Inodes", "sizeOf", "(I)I"⟩ ∈ lw_g := lw_gi (List.mem_append_right _ (List.mem_of_getElem? (i := 391) (by decide +kernel))) rfl
theorem q_392 : Cond.methodLink "FileTree$Inodes" 99 ⟨"FileTree$Inodes", "setSize", "(II)V"⟩ ∈ lw_g := lw_gi (List.mem_append_right _ (List.mem_of_getElem? (i := 392) (by decide +kernel))) rfl
theorem q_393 : Cond.methodLink "FileTreeLaw" 56 ⟨"FileTree", "clear", "(I)Z"⟩ ∈ lw_g := lw_gi (List.mem_append_right _ (List.mem_of_getElem? (i := 393) (by decide +kernel))) rfl
theorem q_394 : Cond.instanceMethod ⟨"FileTree", "clear", "(I)Z"⟩ ∈ lw_g := lw_gi (List.mem_append_right _ (List.mem_of_getElem? (i := 394) (by decide +kernel))) rfl
theorem q_395 : Cond.selects "FileTree" ⟨"FileTree", "clear", "(I)Z"⟩ ⟨"FileTree", "clear", "(I)Z"⟩ ∈ lw_g := lw_gi (List.mem_append_right _ (List.mem_of_getElem? (i := 395) (by decide +kernel))) rfl
theorem q_396 : Cond.code ⟨"FileTree", "clear", "(I)Z"⟩ prog_1_method_11_code 2 (Option.some Jvm.ClassFile.FieldType.boolean) ∈ lw_g := lw_gi (List.mem_append_right _ (List.mem_of_getElem? (i := 396) (by decide +kernel))) rfl
theorem q_397 : Cond.methodLink "FileTree" 150 ⟨"FileTree$Inodes", "dropBlocks", "(I)V"⟩ ∈ lw_g := lw_gi (List.mem_append_right _ (List.mem_of_getElem? (i := 397) (by decide +kernel))) rfl
theorem q_398 : Cond.methodLink "FileTree" 153 ⟨"FileTree$Inodes", "setSize", "(II)V"⟩ ∈ lw_g := lw_gi (List.mem_append_right _ (List.mem_of_getElem? (i := 398) (by decide +kernel))) rfl
theorem q_399 : Cond.methodLink "FileTreeLaw" 60 ⟨"FileTree", "about", "(II)I"⟩ ∈ lw_g := lw_gi (List.mem_append_right _ (List.mem_of_getElem? (i := 399) (by decide +kernel))) rfl
theorem q_400 : Cond.instanceMethod ⟨"FileTree", "about", "(II)I"⟩ ∈ lw_g := lw_gi (List.mem_append_right _ (List.mem_of_getElem? (i := 400) (by decide +kernel))) rfl
theorem q_401 : Cond.selects "FileTree" ⟨"FileTree", "about", "(II)I"⟩ ⟨"FileTree", "about", "(II)I"⟩ ∈ lw_g := lw_gi (List.mem_append_right _ (List.mem_of_getElem? (i := 401) (by decide +kernel))) rfl
theorem q_402 : Cond.code ⟨"FileTree", "about", "(II)I"⟩ prog_1_method_12_code 3 (Option.some Jvm.ClassFile.FieldType.int) ∈ lw_g := lw_gi (List.mem_append_right _ (List.mem_of_getElem? (i := 402) (by decide +kernel))) rfl
theorem q_403 : Cond.methodLink "FileTree" 156 ⟨"FileTree$Inodes", "isInode", "(I)Z"⟩ ∈ lw_g := lw_gi (List.mem_append_right _ (List.mem_of_getElem? (i := 403) (by decide +kernel))) rfl
theorem q_404 : Cond.methodLink "FileTree" 159 ⟨"FileTree$Inodes", "majorOf", "(I)I"⟩ ∈ lw_g := lw_gi (List.mem_append_right _ (List.mem_of_getElem? (i := 404) (by decide +kernel))) rfl
theorem q_405 : Cond.instanceMethod ⟨"FileTree$Inodes", "majorOf", "(I)I"⟩ ∈ lw_g := lw_gi (List.mem_append_right _ (List.mem_of_getElem? (i := 405) (by decide +kernel))) rfl
theorem q_406 : Cond.selects "FileTree$Inodes" ⟨"FileTree$Inodes", "majorOf", "(I)I"⟩ ⟨"FileTree$Inodes", "majorOf", "(I)I"⟩ ∈ lw_g := lw_gi (List.mem_append_right _ (List.mem_of_getElem? (i := 406) (by decide +kernel))) rfl
theorem q_407 : Cond.code ⟨"FileTree$Inodes", "majorOf", "(I)I"⟩ prog_4_method_5_code 2 (Option.some Jvm.ClassFile.FieldType.int) ∈ lw_g := lw_gi (List.mem_append_right _ (List.mem_of_getElem? (i := 407) (by decide +kernel))) rfl
theorem q_408 : Cond.methodLink "FileTree" 162 ⟨"FileTree$Inodes", "minorOf", "(I)I"⟩ ∈ lw_g := lw_gi (List.mem_append_right _ (List.mem_of_getElem? (i := 408) (by decide +kernel))) rfl
theorem q_409 : Cond.instanceMethod ⟨"FileTree$Inodes", "minorOf", "(I)I"⟩ ∈ lw_g := lw_gi (List.mem_append_right _ (List.mem_of_getElem? (i := 409) (by decide +kernel))) rfl
theorem q_410 : Cond.selects "FileTree$Inodes" ⟨"FileTree$Inodes", "minorOf", "(I)I"⟩ ⟨"FileTree$Inodes", "minorOf", "(I)I"⟩ ∈ lw_g := lw_gi (List.mem_append_right _ (List.mem_of_getElem? (i := 410) (by decide +kernel))) rfl
theorem q_411 : Cond.code ⟨"FileTree$Inodes", "minorOf", "(I)I"⟩ prog_4_method_6_code 2 (Option.some Jvm.ClassFile.FieldType.int) ∈ lw_g := lw_gi (List.mem_append_right _ (List.mem_of_getElem? (i := 411) (by decide +kernel))) rfl
theorem q_412 : Cond.methodLink "FileTreeLaw" 65 ⟨"FileTree", "free", "()I"⟩ ∈ lw_g := lw_gi (List.mem_append_right _ (List.mem_of_getElem? (i := 412) (by decide +kernel))) rfl
theorem q_413 : Cond.instanceMethod ⟨"FileTree", "free", "()I"⟩ ∈ lw_g := lw_gi (List.mem_append_right _ (List.mem_of_getElem? (i := 413) (by decide +kernel))) rfl
theorem q_414 : Cond.selects "FileTree" ⟨"FileTree", "free", "()I"⟩ ⟨"FileTree", "free", "()I"⟩ ∈ lw_g := lw_gi (List.mem_append_right _ (List.mem_of_getElem? (i := 414) (by decide +kernel))) rfl
theorem q_415 : Cond.code ⟨"FileTree", "free", "()I"⟩ prog_1_method_13_code 1 (Option.some Jvm.ClassFile.FieldType.int) ∈ lw_g := lw_gi (List.mem_append_right _ (List.mem_of_getElem? (i := 415) (by decide +kernel))) rfl
theorem q_416 : Cond.methodLink "FileTree" 165 ⟨"FileTree$Disk", "freeBlocks", "()I"⟩ ∈ lw_g := lw_gi (List.mem_append_right _ (List.mem_of_getElem? (i := 416) (by decide +kernel))) rfl
theorem q_417 : Cond.methodLink "FileTreeLaw" 70 ⟨"FileTree", "forget", "()I"⟩ ∈ lw_g := lw_gi (List.mem_append_right _ (List.mem_of_getElem? (i := 417) (by decide +kernel))) rfl
theorem q_418 : Cond.instanceMethod ⟨"FileTree", "forget", "()I"⟩ ∈ lw_g := lw_gi (List.mem_append_right _ (List.mem_of_getElem? (i := 418) (by decide +kernel))) rfl
theorem q_419 : Cond.selects "FileTree" ⟨"FileTree", "forget", "()I"⟩ ⟨"FileTree", "forget", "()I"⟩ ∈ lw_g := lw_gi (List.mem_append_right _ (List.mem_of_getElem? (i := 419) (by decide +kernel))) rfl
theorem q_420 : Cond.code ⟨"FileTree", "forget", "()I"⟩ prog_1_method_14_code 3 (Option.some Jvm.ClassFile.FieldType.int) ∈ lw_g := lw_gi (List.mem_append_right _ (List.mem_of_getElem? (i := 420) (by decide +kernel))) rfl
theorem q_421 : Cond.methodLink "FileTreeLaw" 74 ⟨"FileTree", "fill", "(III)Z"⟩ ∈ lw_g := lw_gi (List.mem_append_right _ (List.mem_of_getElem? (i := 421) (by decide +kernel))) rfl
theorem q_422 : Cond.instanceMethod ⟨"FileTree", "fill", "(III)Z"⟩ ∈ lw_g := lw_gi (List.mem_append_right _ (List.mem_of_getElem? (i := 422) (by decide +kernel))) rfl
theorem q_423 : Cond.selects "FileTree" ⟨"FileTree", "fill", "(III)Z"⟩ ⟨"FileTree", "fill", "(III)Z"⟩ ∈ lw_g := lw_gi (List.mem_append_right _ (List.mem_of_getElem? (i := 423) (by decide +kernel))) rfl
theorem q_424 : Cond.code ⟨"FileTree", "fill", "(III)Z"⟩ prog_1_method_15_code 5 (Option.some Jvm.ClassFile.FieldType.boolean) ∈ lw_g := lw_gi (List.mem_append_right _ (List.mem_of_getElem? (i := 424) (by decide +kernel))) rfl
theorem q_425 : Cond.methodLink "FileTreeLaw" 79 ⟨"FileTree", "at", "(I)I"⟩ ∈ lw_g := lw_gi (List.mem_append_right _ (List.mem_of_getElem? (i := 425) (by decide +kernel))) rfl
theorem q_426 : Cond.instanceMethod ⟨"FileTree", "at", "(I)I"⟩ ∈ lw_g := lw_gi (List.mem_append_right _ (List.mem_of_getElem? (i := 426) (by decide +kernel))) rfl
theorem q_427 : Cond.selects "FileTree" ⟨"FileTree", "at", "(I)I"⟩ ⟨"FileTree", "at", "(I)I"⟩ ∈ lw_g := lw_gi (List.mem_append_right _ (List.mem_of_getElem? (i := 427) (by decide +kernel))) rfl
theorem q_428 : Cond.code ⟨"FileTree", "at", "(I)I"⟩ prog_1_method_16_code 2 (Option.some Jvm.ClassFile.FieldType.int) ∈ lw_g := lw_gi (List.mem_append_right _ (List.mem_of_getElem? (i := 428) (by decide +kernel))) rfl
theorem q_429 : Cond.methodLink "FileTreeLaw" 83 ⟨"FileTree", "peek", "(II)I"⟩ ∈ lw_g := lw_gi (List.mem_append_right _ (List.mem_of_getElem? (i := 429) (by decide +kernel))) rfl
theorem q_430 : Cond.instanceMethod ⟨"FileTree", "peek", "(II)I"⟩ ∈ lw_g := lw_gi (List.mem_append_right _ (List.mem_of_getElem? (i := 430) (by decide +kernel))) rfl
theorem q_431 : Cond.selects "FileTree" ⟨"FileTree", "peek", "(II)I"⟩ ⟨"FileTree", "peek", "(II)I"⟩ ∈ lw_g := lw_gi (List.mem_append_right _ (List.mem_of_getElem? (i := 431) (by decide +kernel))) rfl
theorem q_432 : Cond.code ⟨"FileTree", "peek", "(II)I"⟩ prog_1_method_17_code 3 (Option.some Jvm.ClassFile.FieldType.int) ∈ lw_g := lw_gi (List.mem_append_right _ (List.mem_of_getElem? (i := 432) (by decide +kernel))) rfl
theorem q_433 : Cond.classLink "FileTreeLaw" 10 "FileTreeModel" ∈ lw_g := lw_gi (List.mem_append_right _ (List.mem_of_getElem? (i := 433) (by decide +kernel))) rfl
theorem q_434 : Cond.instantiable "FileTreeModel" 18 ∈ lw_g := lw_gi (List.mem_append_right _ (List.mem_of_getElem? (i := 434) (by decide +kernel))) rfl
theorem q_435 : Cond.methodLink "FileTreeLaw" 12 ⟨"FileTreeModel", "<init>", "()V"⟩ ∈ lw_g := lw_gi (List.mem_append_right _ (List.mem_of_getElem? (i := 435) (by decide +kernel))) rfl
theorem q_436 : Cond.instanceMethod ⟨"FileTreeModel", "<init>", "()V"⟩ ∈ lw_g := lw_gi (List.mem_append_right _ (List.mem_of_getElem? (i := 436) (by decide +kernel))) rfl
theorem q_437 : Cond.code ⟨"FileTreeModel", "<init>", "()V"⟩ prog_7_method_1_code 2 (Option.none : Option Jvm.ClassFile.FieldType) ∈ lw_g := lw_gi (List.mem_append_right _ (List.mem_of_getElem? (i := 437) (by decide +kernel))) rfl
theorem q_438 : Cond.methodLink "FileTreeModel" 1 ⟨"java/lang/Object", "<init>", "()V"⟩ ∈ lw_g := lw_gi (List.mem_append_right _ (List.mem_of_getElem? (i := 438) (by decide +kernel))) rfl
theorem q_439 : Cond.constant "FileTreeModel" 16 524288 ∈ lw_g := lw_gi (List.mem_append_right _ (List.mem_of_getElem? (i := 439) (by decide +kernel))) rfl
theorem q_440 : Cond.constant "FileTreeModel" 49 270544960 ∈ lw_g := lw_gi (List.mem_append_right _ (List.mem_of_getElem? (i := 440) (by decide +kernel))) rfl
theorem q_441 : Cond.methodLink "FileTreeModel" 56 ⟨"FileTreeModel", "begins", "(II)V"⟩ ∈ lw_g := lw_gi (List.mem_append_right _ (List.mem_of_getElem? (i := 441) (by decide +kernel))) rfl
theorem q_443 : Cond.instanceMethod ⟨"FileTreeModel", "begins", "(II)V"⟩ ∈ lw_g := lw_gi (List.mem_append_right _ (List.mem_of_getElem? (i := 443) (by decide +kernel))) rfl
theorem q_444 : Cond.code ⟨"FileTreeModel", "begins", "(II)V"⟩ prog_7_method_21_code 3 (Option.none : Option Jvm.ClassFile.FieldType) ∈ lw_g := lw_gi (List.mem_append_right _ (List.mem_of_getElem? (i := 444) (by decide +kernel))) rfl
theorem q_445 : Cond.methodLink "FileTreeModel" 95 ⟨"FileTreeModel", "grow", "(I)V"⟩ ∈ lw_g := lw_gi (List.mem_append_right _ (List.mem_of_getElem? (i := 445) (by decide +kernel))) rfl
theorem q_447 : Cond.instanceMethod ⟨"FileTreeModel", "grow", "(I)V"⟩ ∈ lw_g := lw_gi (List.mem_append_right _ (List.mem_of_getElem? (i := 447) (by decide +kernel))) rfl
theorem q_448 : Cond.code ⟨"FileTreeModel", "grow", "(I)V"⟩ prog_7_method_7_code 3 (Option.none : Option Jvm.ClassFile.FieldType) ∈ lw_g := lw_gi (List.mem_append_right _ (List.mem_of_getElem? (i := 448) (by decide +kernel))) rfl
theorem q_449 : Cond.methodLink "FileTreeModel" 64 ⟨"FileTreeModel", "take", "()I"⟩ ∈ lw_g := lw_gi (List.mem_append_right _ (List.mem_of_getElem? (i := 449) (by decide +kernel))) rfl
theorem q_451 : Cond.instanceMethod ⟨"FileTreeModel", "take", "()I"⟩ ∈ lw_g := lw_gi (List.mem_append_right _ (List.mem_of_getElem? (i := 451) (by decide +kernel))) rfl
theorem q_452 : Cond.code ⟨"FileTreeModel", "take", "()I"⟩ prog_7_method_4_code 3 (Option.some Jvm.ClassFile.FieldType.int) ∈ lw_g := lw_gi (List.mem_append_right _ (List.mem_of_getElem? (i := 452) (by decide +kernel))) rfl
theorem q_453 : Cond.methodLink "FileTreeModel" 68 ⟨"FileTreeModel", "putNumber", "(III)V"⟩ ∈ lw_g := lw_gi (List.mem_append_right _ (List.mem_of_getElem? (i := 453) (by decide +kernel))) rfl
theorem q_455 : Cond.instanceMethod ⟨"FileTreeModel", "putNumber", "(III)V"⟩ ∈ lw_g := lw_gi (List.mem_append_right _ (List.mem_of_getElem? (i := 455) (by decide +kernel))) rfl
theorem q_456 : Cond.code ⟨"FileTreeModel", "putNumber", "(III)V"⟩ prog_7_method_5_code 5 (Option.none : Option Jvm.ClassFile.FieldType) ∈ lw_g := lw_gi (List.mem_append_right _ (List.mem_of_getElem? (i := 456) (by decide +kernel))) rfl
theorem q_457 : Cond.methodLink "FileTreeModel" 101 ⟨"FileTreeModel", "dots", "(I)V"⟩ ∈ lw_g := lw_gi (List.mem_append_right _ (List.mem_of_getElem? (i := 457) (by decide +kernel))) rfl
theorem q_459 : Cond.instanceMethod ⟨"FileTreeModel", "dots", "(I)V"⟩ ∈ lw_g := lw_gi (List.mem_append_right _ (List.mem_of_getElem? (i := 459) (by decide +kernel))) rfl
theorem q_460 : Cond.code ⟨"FileTreeModel", "dots", "(I)V"⟩ prog_7_method_20_code 3 (Option.none : Option Jvm.ClassFile.FieldType) ∈ lw_g := lw_gi (List.mem_append_right _ (List.mem_of_getElem? (i := 460) (by decide +kernel))) rfl
theorem q_461 : Cond.methodLink "FileTreeModel" 98 ⟨"FileTreeModel", "lay", "(III)V"⟩ ∈ lw_g := lw_gi (List.mem_append_right _ (List.mem_of_getElem? (i := 461) (by decide +kernel))) rfl
theorem q_463 : Cond.instanceMethod ⟨"FileTreeModel", "lay", "(III)V"⟩ ∈ lw_g := lw_gi (List.mem_append_right _ (List.mem_of_getElem? (i := 463) (by decide +kernel))) rfl
theorem q_464 : Cond.code ⟨"FileTreeModel", "lay", "(III)V"⟩ prog_7_method_17_code 6 (Option.none : Option Jvm.ClassFile.FieldType) ∈ lw_g := lw_gi (List.mem_append_right _ (List.mem_of_getElem? (i := 464) (by decide +kernel))) rfl
theorem q_465 : Cond.methodLink "FileTreeModel" 80 ⟨"FileTreeModel", "place", "(II)I"⟩ ∈ lw_g := lw_gi (List.mem_append_right _ (List.mem_of_getElem? (i := 465) (by decide +kernel))) rfl
theorem q_467 : Cond.instanceMethod ⟨"FileTreeModel", "place", "(II)I"⟩ ∈ lw_g := lw_gi (List.mem_append_right _ (List.mem_of_getElem? (i := 467) (by decide +kernel))) rfl
theorem q_468 : Cond.code ⟨"FileTreeModel", "place", "(II)I"⟩ prog_7_method_10_code 3 (Option.some Jvm.ClassFile.FieldType.int) ∈ lw_g := lw_gi (List.mem_append_right _ (List.mem_of_getElem? (i := 468) (by decide +kernel))) rfl
theorem q_469 : Cond.fieldLink "FileTreeModel" 60 "FileTreeModel" "thrown" "I" ∈ lw_g := lw_gi (List.mem_append_right _ (List.mem_of_getElem? (i := 469) (by decide +kernel))) rfl
theorem q_470 : Cond.fieldLink "FileTreeModel" 130 "FileTreeModel" "typed" "I" ∈ lw_g := lw_gi (List.mem_append_right _ (List.mem_of_getElem? (i := 470) (by decide +kernel))) rfl
theorem q_471 : Cond.fieldLink "FileTreeModel" 7 "FileTreeModel" "text" "[B" ∈ lw_g := lw_gi (List.mem_append_right _ (List.mem_of_getElem? (i := 471) (by decide +kernel))) rfl
theorem q_472 : Cond.fieldLink "FileTreeModel" 13 "FileTreeModel" "buffer" "[B" ∈ lw_g := lw_gi (List.mem_append_right _ (List.mem_of_getElem? (i := 472) (by decide +kernel))) rfl
theorem q_473 : Cond.fieldLink "FileTreeModel" 17 "FileTreeModel" "disk" "[B" ∈ lw_g := lw_gi (List.mem_append_right _ (List.mem_of_getElem? (i := 473) (by decide +kernel))) rfl
theorem q_474 : Cond.fieldLink "FileTreeModel" 20 "FileTreeModel" "used" "[Z" ∈ lw_g := lw_gi (List.mem_append_right _ (List.mem_of_getElem? (i := 474) (by decide +kernel))) rfl
theorem q_475 : Cond.fieldLink "FileTreeModel" 24 "FileTreeModel" "kind" "[I" ∈ lw_g := lw_gi (List.mem_append_right _ (List.mem_of_getElem? (i := 475) (by decide +kernel))) rfl
theorem q_476 : Cond.fieldLink "FileTreeModel" 28 "FileTreeModel" "major" "[I" ∈ lw_g := lw_gi (List.mem_append_right _ (List.mem_of_getElem? (i := 476) (by decide +kernel))) rfl
theorem q_477 : Cond.fieldLink "FileTreeModel" 31 "FileTreeModel" "minor" "[I" ∈ lw_g := lw_gi (List.mem_append_right _ (List.mem_of_getElem? (i := 477) (by decide +kernel))) rfl
theorem q_478 : Cond.fieldLink "FileTreeModel" 34 "FileTreeModel" "links" "[I" ∈ lw_g := lw_gi (List.mem_append_right _ (List.mem_of_getElem? (i := 478) (by decide +kernel))) rfl
theorem q_479 : Cond.fieldLink "FileTreeModel" 37 "FileTreeModel" "size" "[I" ∈ lw_g := lw_gi (List.mem_append_right _ (List.mem_of_getElem? (i := 479) (by decide +kernel))) rfl
theorem q_480 : Cond.fieldLink "FileTreeModel" 40 "FileTreeModel" "held" "[I" ∈ lw_g := lw_gi (List.mem_append_right _ (List.mem_of_getElem? (i := 480) (by decide +kernel))) rfl
theorem q_481 : Cond.fieldLink "FileTreeModel" 43 "FileTreeModel" "many" "[I" ∈ lw_g := lw_gi (List.mem_append_right _ (List.mem_of_getElem? (i := 481) (by decide +kernel))) rfl
theorem q_482 : Cond.fieldLink "FileTreeModel" 46 "FileTreeModel" "blocks" "[I" ∈ lw_g := lw_gi (List.mem_append_right _ (List.mem_of_getElem? (i := 482) (by decide +kernel))) rfl
theorem q_483 : Cond.fieldLink "FileTreeModel" 50 "FileTreeModel" "numbers" "[I" ∈ lw_g := lw_gi (List.mem_append_right _ (List.mem_of_getElem? (i := 483) (by decide +kernel))) rfl
theorem q_484 : Cond.fieldLink "FileTreeModel" 104 "FileTreeModel" "p" "I" ∈ lw_g := lw_gi (List.mem_append_right _ (List.mem_of_getElem? (i := 484) (by decide +kernel))) rfl
theorem q_485 : Cond.fieldLink "FileTreeModel" 107 "FileTreeModel" "end" "I" ∈ lw_g := lw_gi (List.mem_append_right _ (List.mem_of_getElem? (i := 485) (by decide +kernel))) rfl
theorem q_486 : Cond.fieldLink "FileTreeModel" 53 "FileTreeModel" "name" "[B" ∈ lw_g := lw_gi (List.mem_append_right _ (List.mem_of_getElem? (i := 486) (by decide +kernel))) rfl
theorem q_524 : Cond.arrayClass (Jvm.ClassFile.FieldType.boolean) ∈ lw_g := lw_gi (List.mem_append_right _ (List.mem_of_getElem? (i := 524) (by decide +kernel))) rfl
theorem q_525 : Cond.methodLink "FileTreeLaw" 19 ⟨"FileTreeModel", "write", "(J)Z"⟩ ∈ lw_g := lw_gi (List.mem_append_right _ (List.mem_of_getElem? (i := 525) (by decide +kernel))) rfl
theorem q_526 : Cond.instanceMethod ⟨"FileTreeModel", "write", "(J)Z"⟩ ∈ lw_g := lw_gi (List.mem_append_right _ (List.mem_of_getElem? (i := 526) (by decide +kernel))) rfl
theorem q_527 : Cond.selects "FileTreeModel" ⟨"FileTreeModel", "write", "(J)Z"⟩ ⟨"FileTreeModel", "write", "(J)Z"⟩ ∈ lw_g := lw_gi (List.mem_append_right _ (List.mem_of_getElem? (i := 527) (by decide +kernel))) rfl
theorem q_528 : Cond.code ⟨"FileTreeModel", "write", "(J)Z"⟩ prog_7_method_29_code 6 (Option.some Jvm.ClassFile.FieldType.boolean) ∈ lw_g := lw_gi (List.mem_append_right _ (List.mem_of_getElem? (i := 528) (by decide +kernel))) rfl
theorem q_529 : Cond.constantLong "FileTreeModel" 133 255 ∈ lw_g := lw_gi (List.mem_append_right _ (List.mem_of_getElem? (i := 529) (by decide +kernel))) rfl
theorem q_530 : Cond.methodLink "FileTreeLaw" 24 ⟨"FileTreeModel", "find", "(I)I"⟩ ∈ lw_g := lw_gi (List.mem_append_right _ (List.mem_of_getElem? (i := 530) (by decide +kernel))) rfl
theorem q_531 : Cond.instanceMethod ⟨"FileTreeModel", "find", "(I)I"⟩ ∈ lw_g := lw_gi (List.mem_append_right _ (List.mem_of_getElem? (i := 531) (by decide +kernel))) rfl
theorem q_532 : Cond.selects "FileTreeModel" ⟨"FileTreeModel", "find", "(I)I"⟩ ⟨"FileTreeModel", "find", "(I)I"⟩ ∈ lw_g := lw_gi (List.mem_append_right _ (List.mem_of_getElem? (i := 532) (by decide +kernel))) rfl
theorem q_533 : Cond.code ⟨"FileTreeModel", "find", "(I)I"⟩ prog_7_method_31_code 3 (Option.some Jvm.ClassFile.FieldType.int) ∈ lw_g := lw_gi (List.mem_append_right _ (List.mem_of_getElem? (i := 533) (by decide +kernel))) rfl
theorem q_534 : Cond.methodLink "FileTreeModel" 135 ⟨"FileTreeModel", "taken", "()I"⟩ ∈ lw_g := lw_gi (List.mem_append_right _ (List.mem_of_getElem? (i := 534) (by decide +kernel))) rfl
theorem q_536 : Cond.instanceMethod ⟨"FileTreeModel", "taken", "()I"⟩ ∈ lw_g := lw_gi (List.mem_append_right _ (List.mem_of_getElem? (i := 536) (by decide +kernel))) rfl
theorem q_537 : Cond.code ⟨"FileTreeModel", "taken", "()I"⟩ prog_7_method_30_code 2 (Option.some Jvm.ClassFile.FieldType.int) ∈ lw_g := lw_gi (List.mem_append_right _ (List.mem_of_getElem? (i := 537) (by decide +kernel))) rfl
theorem q_538 : Cond.methodLink "FileTreeModel" 138 ⟨"FileTreeModel", "leads", "(III)I"⟩ ∈ lw_g := lw_gi (List.mem_append_right _ (List.mem_of_getElem? (i := 538) (by decide +kernel))) rfl
theorem q_540 : Cond.instanceMethod ⟨"FileTreeModel", "leads", "(III)I"⟩ ∈ lw_g := lw_gi (List.mem_append_right _ (List.mem_of_getElem? (i := 540) (by decide +kernel))) rfl
theorem q_541 : Cond.code ⟨"FileTreeModel", "leads", "(III)I"⟩ prog_7_method_27_code 5 (Option.some Jvm.ClassFile.FieldType.int) ∈ lw_g := lw_gi (List.mem_append_right _ (List.mem_of_getElem? (i := 541) (by decide +kernel))) rfl
theorem q_542 : Cond.methodLink "FileTreeModel" 119 ⟨"FileTreeModel", "begin", "(III)I"⟩ ∈ lw_g := lw_gi (List.mem_append_right _ (List.mem_of_getElem? (i := 542) (by decide +kernel))) rfl
theorem q_544 : Cond.instanceMethod ⟨"FileTreeModel", "begin", "(III)I"⟩ ∈ lw_g := lw_gi (List.mem_append_right _ (List.mem_of_getElem? (i := 544) (by decide +kernel))) rfl
theorem q_545 : Cond.code ⟨"FileTreeModel", "begin", "(III)I"⟩ prog_7_method_25_code 6 (Option.some Jvm.ClassFile.FieldType.int) ∈ lw_g := lw_gi (List.mem_append_right _ (List.mem_of_getElem? (i := 545) (by decide +kernel))) rfl
theorem q_546 : Cond.methodLink "FileTreeModel" 113 ⟨"FileTreeModel", "there", "(I)Z"⟩ ∈ lw_g := lw_gi (List.mem_append_right _ (List.mem_of_getElem? (i := 546) (by decide +kernel))) rfl
theorem q_548 : Cond.instanceMethod ⟨"FileTreeModel", "there", "(I)Z"⟩ ∈ lw_g := lw_gi (List.mem_append_right _ (List.mem_of_getElem? (i := 548) (by decide +kernel))) rfl
theorem q_549 : Cond.code ⟨"FileTreeModel", "there", "(I)Z"⟩ prog_7_method_12_code 2 (Option.some Jvm.ClassFile.FieldType.boolean) ∈ lw_g := lw_gi (List.mem_append_right _ (List.mem_of_getElem? (i := 549) (by decide +kernel))) rfl
theorem q_550 : Cond.methodLink "FileTreeModel" 76 ⟨"FileTreeModel", "isInode", "(I)Z"⟩ ∈ lw_g := lw_gi (List.mem_append_right _ (List.mem_of_getElem? (i := 550) (by decide +kernel))) rfl
theorem q_551 : Cond.static ⟨"FileTreeModel", "isInode", "(I)Z"⟩ ∈ lw_g := lw_gi (List.mem_append_right _ (List.mem_of_getElem? (i := 551) (by decide +kernel))) rfl
theorem q_552 : Cond.code ⟨"FileTreeModel", "isInode", "(I)Z"⟩ prog_7_method_11_code 1 (Option.some Jvm.ClassFile.FieldType.boolean) ∈ lw_g := lw_gi (List.mem_append_right _ (List.mem_of_getElem? (i := 552) (by decide +kernel))) rfl
theorem q_553 : Cond.methodLink "FileTreeModel" 123 ⟨"FileTreeModel", "named", "()Z"⟩ ∈ lw_g := lw_gi (List.mem_append_right _ (List.mem_of_getElem? (i := 553) (by decide +kernel))) rfl
theorem q_555 : Cond.instanceMethod ⟨"FileTreeModel", "named", "()Z"⟩ ∈ lw_g := lw_gi (List.mem_append_right _ (List.mem_of_getElem? (i := 555) (by decide +kernel))) rfl
theorem q_556 : Cond.code ⟨"FileTreeModel", "named", "()Z"⟩ prog_7_method_24_code 3 (Option.some Jvm.ClassFile.FieldType.boolean) ∈ lw_g := lw_gi (List.mem_append_right _ (List.mem_of_getElem? (i := 556) (by decide +kernel))) rfl
theorem q_557 : Cond.methodLink "FileTreeModel" 110 ⟨"FileTreeModel", "slashes", "()V"⟩ ∈ lw_g := lw_gi (List.mem_append_right _ (List.mem_of_getElem? (i := 557) (by decide +kernel))) rfl
theorem q_559 : Cond.instanceMethod ⟨"FileTreeModel", "slashes", "()V"⟩ ∈ lw_g := lw_gi (List.mem_append_right _ (List.mem_of_getElem? (i := 559) (by decide +kernel))) rfl
theorem q_560 : Cond.code ⟨"FileTreeModel", "slashes", "()V"⟩ prog_7_method_23_code 1 (Option.none : Option Jvm.ClassFile.FieldType) ∈ lw_g := lw_gi (List.mem_append_right _ (List.mem_of_getElem? (i := 560) (by decide +kernel))) rfl
theorem q_561 : Cond.methodLink "FileTreeModel" 127 ⟨"FileTreeModel", "step", "(I)I"⟩ ∈ lw_g := lw_gi (List.mem_append_right _ (List.mem_of_getElem? (i := 561) (by decide +kernel))) rfl
theorem q_563 : Cond.instanceMethod ⟨"FileTreeModel", "step", "(I)I"⟩ ∈ lw_g := lw_gi (List.mem_append_right _ (List.mem_of_getElem? (i := 563) (by decide +kernel))) rfl
theorem q_564 : Cond.code ⟨"FileTreeModel", "step", "(I)I"⟩ prog_7_method_26_code 3 (Option.some Jvm.ClassFile.FieldType.int) ∈ lw_g := lw_gi (List.mem_append_right _ (List.mem_of_getElem? (i := 564) (by decide +kernel))) rfl
theorem q_565 : Cond.methodLink "FileTreeModel" 116 ⟨"FileTreeModel", "entry", "(I)I"⟩ ∈ lw_g := lw_gi (List.mem_append_right _ (List.mem_of_getElem? (i := 565) (by decide +kernel))) rfl
theorem q_567 : Cond.instanceMethod ⟨"FileTreeModel", "entry", "(I)I"⟩ ∈ lw_g := lw_gi (List.mem_append_right _ (List.mem_of_getElem? (i := 567) (by decide +kernel))) rfl
theorem q_568 : Cond.code ⟨"FileTreeModel", "entry", "(I)I"⟩ prog_7_method_14_code 6 (Option.some Jvm.ClassFile.FieldType.int) ∈ lw_g := lw_gi (List.mem_append_right _ (List.mem_of_getElem? (i := 568) (by decide +kernel))) rfl
theorem q_569 : Cond.methodLink "FileTreeModel" 84 ⟨"FileTreeModel", "numberAt", "(II)I"⟩ ∈ lw_g := lw_gi (List.mem_append_right _ (List.mem_of_getElem? (i := 569) (by decide +kernel))) rfl
theorem q_571 : Cond.instanceMethod ⟨"FileTreeModel", "numberAt", "(II)I"⟩ ∈ lw_g := lw_gi (List.mem_append_right _ (List.mem_of_getElem? (i := 571) (by decide +kernel))) rfl
theorem q_572 : Cond.code ⟨"FileTreeModel", "numberAt", "(II)I"⟩ prog_7_method_13_code 4 (Option.some Jvm.ClassFile.FieldType.int) ∈ lw_g := lw_gi (List.mem_append_right _ (List.mem_of_getElem? (i := 572) (by decide +kernel))) rfl
theorem q_573 : Cond.methodLink "FileTreeLaw" 29 ⟨"FileTreeModel", "create", "(IIII)I"⟩ ∈ lw_g := lw_gi (List.mem_append_right _ (List.mem_of_getElem? (i := 573) (by decide +kernel))) rfl
theorem q_574 : Cond.instanceMethod ⟨"FileTreeModel", "create", "(IIII)I"⟩ ∈ lw_g := lw_gi (List.mem_append_right _ (List.mem_of_getElem? (i := 574) (by decide +kernel))) rfl
theorem q_575 : Cond.selects "FileTreeModel" ⟨"FileTreeModel", "create", "(IIII)I"⟩ ⟨"FileTreeModel", "create", "(IIII)I"⟩ ∈ lw_g := lw_gi (List.mem_append_right _ (List.mem_of_getElem? (i := 575) (by decide +kernel))) rfl
theorem q_576 : Cond.code ⟨"FileTreeModel", "create", "(IIII)I"⟩ prog_7_method_32_code 8 (Option.some Jvm.ClassFile.FieldType.int) ∈ lw_g := lw_gi (List.mem_append_right _ (List.mem_of_getElem? (i := 576) (by decide +kernel))) rfl
theorem q_577 : Cond.methodLink "FileTreeModel" 141 ⟨"FileTreeModel", "before", "(III)I"⟩ ∈ lw_g := lw_gi (List.mem_append_right _ (List.mem_of_getElem? (i := 577) (by decide +kernel))) rfl
theorem q_579 : Cond.instanceMethod ⟨"FileTreeModel", "before", "(III)I"⟩ ∈ lw_g := lw_gi (List.mem_append_right _ (List.mem_of_getElem? (i := 579) (by decide +kernel))) rfl
theorem q_580 : Cond.code ⟨"FileTreeModel", "before", "(III)I"⟩ prog_7_method_28_code 7 (Option.some Jvm.ClassFile.FieldType.int) ∈ lw_g := lw_gi (List.mem_append_right _ (List.mem_of_getElem? (i := 580) (by decide +kernel))) rfl
theorem q_581 : Cond.methodLink "FileTreeModel" 144 ⟨"FileTreeModel", "wants", "(I)I"⟩ ∈ lw_g := lw_gi (List.mem_append_right _ (List.mem_of_getElem? (i := 581) (by decide +kernel))) rfl
theorem q_583 : Cond.instanceMethod ⟨"FileTreeModel", "wants", "(I)I"⟩ ∈ lw_g := lw_gi (List.mem_append_right _ (List.mem_of_getElem? (i := 583) (by decide +kernel))) rfl
theorem q_584 : Cond.code ⟨"FileTreeModel", "wants", "(I)I"⟩ prog_7_method_16_code 3 (Option.some Jvm.ClassFile.FieldType.int) ∈ lw_g := lw_gi (List.mem_append_right _ (List.mem_of_getElem? (i := 584) (by decide +kernel))) rfl
theorem q_585 : Cond.methodLink "FileTreeModel" 87 ⟨"FileTreeModel", "vacant", "(I)I"⟩ ∈ lw_g := lw_gi (List.mem_append_right _ (List.mem_of_getElem? (i := 585) (by decide +kernel))) rfl
theorem q_587 : Cond.instanceMethod ⟨"FileTreeModel", "vacant", "(I)I"⟩ ∈ lw_g := lw_gi (List.mem_append_right _ (List.mem_of_getElem? (i := 587) (by decide +kernel))) rfl
theorem q_588 : Cond.code ⟨"FileTreeModel", "vacant", "(I)I"⟩ prog_7_method_15_code 3 (Option.some Jvm.ClassFile.FieldType.int) ∈ lw_g := lw_gi (List.mem_append_right _ (List.mem_of_getElem? (i := 588) (by decide +kernel))) rfl
theorem q_589 : Cond.constant "FileTreeModel" 91 274432 ∈ lw_g := lw_gi (List.mem_append_right _ (List.mem_of_getElem? (i := 589) (by decide +kernel))) rfl
theorem q_590 : Cond.methodLink "FileTreeModel" 92 ⟨"FileTreeModel", "next", "(I)I"⟩ ∈ lw_g := lw_gi (List.mem_append_right _ (List.mem_of_getElem? (i := 590) (by decide +kernel))) rfl
theorem q_592 : Cond.instanceMethod ⟨"FileTreeModel", "next", "(I)I"⟩ ∈ lw_g := lw_gi (List.mem_append_right _ (List.mem_of_getElem? (i := 592) (by decide +kernel))) rfl
theorem q_593 : Cond.code ⟨"FileTreeModel", "next", "(I)I"⟩ prog_7_method_6_code 2 (Option.some Jvm.ClassFile.FieldType.int) ∈ lw_g := lw_gi (List.mem_append_right _ (List.mem_of_getElem? (i := 593) (by decide +kernel))) rfl
theorem q_594 : Cond.methodLink "FileTreeModel" 147 ⟨"FileTreeModel", "left", "()I"⟩ ∈ lw_g := lw_gi (List.mem_append_right _ (List.mem_of_getElem? (i := 594) (by decide +kernel))) rfl
theorem q_596 : Cond.instanceMethod ⟨"FileTreeModel", "left", "()I"⟩ ∈ lw_g := lw_gi (List.mem_append_right _ (List.mem_of_getElem? (i := 596) (by decide +kernel))) rfl
theorem q_597 : Cond.code ⟨"FileTreeModel", "left", "()I"⟩ prog_7_method_3_code 3 (Option.some Jvm.ClassFile.FieldType.int) ∈ lw_g := lw_gi (List.mem_append_right _ (List.mem_of_getElem? (i := 597) (by decide +kernel))) rfl
theorem q_598 : Cond.constant "FileTreeModel" 150 65535 ∈ lw_g := lw_gi (List.mem_append_right _ (List.mem_of_getElem? (i := 598) (by decide +kernel))) rfl
theorem q_599 : Cond.methodLink "FileTreeModel" 151 ⟨"FileTreeModel", "again", "()V"⟩ ∈ lw_g := lw_gi (List.mem_append_right _ (List.mem_of_getElem? (i := 599) (by decide +kernel))) rfl
theorem q_601 : Cond.instanceMethod ⟨"FileTreeModel", "again", "()V"⟩ ∈ lw_g := lw_gi (List.mem_append_right _ (List.mem_of_getElem? (i := 601) (by decide +kernel))) rfl
theorem q_602 : Cond.code ⟨"FileTreeModel", "again", "()V"⟩ prog_7_method_33_code 3 (Option.none : Option Jvm.ClassFile.FieldType) ∈ lw_g := lw_gi (List.mem_append_right _ (List.mem_of_getElem? (i := 602) (by decide +kernel))) rfl
theorem q_603 : Cond.methodLink "FileTreeModel" 154 ⟨"FileTreeModel", "enter", "(II)V"⟩ ∈ lw_g := lw_gi (List.mem_append_right _ (List.mem_of_getElem? (i := 603) (by decide +kernel))) rfl
theorem q_605 : Cond.instanceMethod ⟨"FileTreeModel", "enter", "(II)V"⟩ ∈ lw_g := lw_gi (List.mem_append_right _ (List.mem_of_getElem? (i := 605) (by decide +kernel))) rfl
theorem q_606 : Cond.code ⟨"FileTreeModel", "enter", "(II)V"⟩ prog_7_method_18_code 4 (Option.none : Option Jvm.ClassFile.FieldType) ∈ lw_g := lw_gi (List.mem_append_right _ (List.mem_of_getElem? (i := 606) (by decide +kernel))) rfl
theorem q_607 : Cond.methodLink "FileTreeLaw" 33 ⟨"FileTreeModel", "link", "(I)I"⟩ ∈ lw_g := lw_gi (List.mem_append_right _ (List.mem_of_getElem? (i := 607) (by decide +kernel))) rfl
theorem q_608 : Cond.instanceMethod ⟨"FileTreeModel", "link", "(I)I"⟩ ∈ lw_g := lw_gi (List.mem_append_right _ (List.mem_of_getElem? (i := 608) (by decide +kernel))) rfl
theorem q_609 : Cond.selects "FileTreeModel" ⟨"FileTreeModel", "link", "(I)I"⟩ ⟨"FileTreeModel", "link", "(I)I"⟩ ∈ lw_g := lw_gi (List.mem_append_right _ (List.mem_of_getElem? (i := 609) (by decide +kernel))) rfl
theorem q_610 : Cond.code ⟨"FileTreeModel", "link", "(I)I"⟩ prog_7_method_34_code 6 (Option.some Jvm.ClassFile.FieldType.int) ∈ lw_g := lw_gi (List.mem_append_right _ (List.mem_of_getElem? (i := 610) (by decide +kernel))) rfl
theorem q_611 : Cond.methodLink "FileTreeLaw" 37 ⟨"FileTreeModel", "unlink", "(I)I"⟩ ∈ lw_g := lw_gi (List.mem_append_right _ (List.mem_of_getElem? (i := 611) (by decide +kernel))) rfl
theorem q_612 : Cond.instanceMethod ⟨"FileTreeModel", "unlink", "(I)I"⟩ ∈ lw_g := lw_gi (List.mem_append_right _ (List.mem_of_getElem? (i := 612) (by decide +kernel))) rfl
theorem q_613 : Cond.selects "FileTreeModel" ⟨"FileTreeModel", "unlink", "(I)I"⟩ ⟨"FileTreeModel", "unlink", "(I)I"⟩ ∈ lw_g := lw_gi (List.mem_append_right _ (List.mem_of_getElem? (i := 613) (by decide +kernel))) rfl
theorem q_614 : Cond.code ⟨"FileTreeModel", "unlink", "(I)I"⟩ prog_7_method_36_code 6 (Option.some Jvm.ClassFile.FieldType.int) ∈ lw_g := lw_gi (List.mem_append_right _ (List.mem_of_getElem? (i := 614) (by decide +kernel))) rfl
theorem q_615 : Cond.methodLink "FileTreeModel" 157 ⟨"FileTreeModel", "isDots", "()Z"⟩ ∈ lw_g := lw_gi (List.mem_append_right _ (List.mem_of_getElem? (i := 615) (by decide +kernel))) rfl
theorem q_617 : Cond.instanceMethod ⟨"FileTreeModel", "isDots", "()Z"⟩ ∈ lw_g := lw_gi (List.mem_append_right _ (List.mem_of_getElem? (i := 617) (by decide +kernel))) rfl
theorem q_618 : Cond.code ⟨"FileTreeModel", "isDots", "()Z"⟩ prog_7_method_22_code 1 (Option.some Jvm.ClassFile.FieldType.boolean) ∈ lw_g := lw_gi (List.mem_append_right _ (List.mem_of_getElem? (i := 618) (by decide +kernel))) rfl
theorem q_619 : Cond.methodLink "FileTreeModel" 160 ⟨"FileTreeModel", "isBare", "(I)Z"⟩ ∈ lw_g := lw_gi (List.mem_append_right _ (List.mem_of_getElem? (i := 619) (by decide +kernel))) rfl
theorem q_621 : Cond.instanceMethod ⟨"FileTreeModel", "isBare", "(I)Z"⟩ ∈ lw_g := lw_gi (List.mem_append_right _ (List.mem_of_getElem? (i := 621) (by decide +kernel))) rfl
theorem q_622 : Cond.code ⟨"FileTreeModel", "isBare", "(I)Z"⟩ prog_7_method_35_code 4 (Option.some Jvm.ClassFile.FieldType.boolean) ∈ lw_g := lw_gi (List.mem_append_right _ (List.mem_of_getElem? (i := 622) (by decide +kernel))) rfl
theorem q_623 : Cond.methodLink "FileTreeModel" 163 ⟨"FileTreeModel", "erase", "(II)V"⟩ ∈ lw_g := lw_gi (List.mem_append_right _ (List.mem_of_getElem? (i := 623) (by decide +kernel))) rfl
theorem q_625 : Cond.instanceMethod ⟨"FileTreeModel", "erase", "(II)V"⟩ ∈ lw_g := lw_gi (List.mem_append_right _ (List.mem_of_getElem? (i := 625) (by decide +kernel))) rfl
theorem q_626 : Cond.code ⟨"FileTreeModel", "erase", "(II)V"⟩ prog_7_method_19_code 5 (Option.none : Option Jvm.ClassFile.FieldType) ∈ lw_g := lw_gi (List.mem_append_right _ (List.mem_of_getElem? (i := 626) (by decide +kernel))) rfl
theorem q_627 : Cond.methodLink "FileTreeModel" 166 ⟨"FileTreeModel", "ends", "(I)Z"⟩ ∈ lw_g := lw_gi (List.mem_append_right _ (List.mem_of_getElem? (i := 627) (by decide +kernel))) rfl
theorem q_629 : Cond.instanceMethod ⟨"FileTreeModel", "ends", "(I)Z"⟩ ∈ lw_g := lw_gi (List.mem_append_right _ (List.mem_of_getElem? (i := 629) (by decide +kernel))) rfl
theorem q_630 : Cond.code ⟨"FileTreeModel", "ends", "(I)Z"⟩ prog_7_method_9_code 2 (Option.some Jvm.ClassFile.FieldType.boolean) ∈ lw_g := lw_gi (List.mem_append_right _ (List.mem_of_getElem? (i := 630) (by decide +kernel))) rfl
theorem q_631 : Cond.methodLink "FileTreeModel" 72 ⟨"FileTreeModel", "empty", "(I)V"⟩ ∈ lw_g := lw_gi (List.mem_append_right _ (List.mem_of_getElem? (i := 631) (by decide +kernel))) rfl
theorem q_633 : Cond.instanceMethod ⟨"FileTreeModel", "empty", "(I)V"⟩ ∈ lw_g := lw_gi (List.mem_append_right _ (List.mem_of_getElem? (i := 633) (by decide +kernel))) rfl
theorem q_634 : Cond.code ⟨"FileTreeModel", "empty", "(I)V"⟩ prog_7_method_8_code 3 (Option.none : Option Jvm.ClassFile.FieldType) ∈ lw_g := lw_gi (List.mem_append_right _ (List.mem_of_getElem? (i := 634) (by decide +kernel))) rfl
theorem q_635 : Cond.methodLink "FileTreeLaw" 42 ⟨"FileTreeModel", "hold", "(I)Z"⟩ ∈ lw_g := lw_gi (List.mem_append_right _ (List.mem_of_getElem? (i := 635) (by decide +kernel))) rfl
theorem q_636 : Cond.instanceMethod ⟨"FileTreeModel", "hold", "(I)Z"⟩ ∈ lw_g := lw_gi (List.mem_append_right _ (List.mem_of_getElem? (i := 636) (by decide +kernel))) rfl
theorem q_637 : Cond.selects "FileTreeModel" ⟨"FileTreeModel", "hold", "(I)Z"⟩ ⟨"FileTreeModel", "hold", "(I)Z"⟩ ∈ lw_g := lw_gi (List.mem_append_right _ (List.mem_of_getElem? (i := 637) (by decide +kernel))) rfl
theorem q_638 : Cond.code ⟨"FileTreeModel", "hold", "(I)Z"⟩ prog_7_method_37_code 2 (Option.some Jvm.ClassFile.FieldType.boolean) ∈ lw_g := lw_gi (List.mem_append_right _ (List.mem_of_getElem? (i := 638) (by decide +kernel))) rfl
theorem q_639 : Cond.methodLink "FileTreeLaw" 46 ⟨"FileTreeModel", "leave", "(I)Z"⟩ ∈ lw_g := lw_gi (List.mem_append_right _ (List.mem_of_getElem? (i := 639) (by decide +kernel))) rfl
theorem q_640 : Cond.instanceMethod ⟨"FileTreeModel", "leave", "(I)Z"⟩ ∈ lw_g := lw_gi (List.mem_append_right _ (List.mem_of_getElem? (i := 640) (by decide +kernel))) rfl
theorem q_641 : Cond.selects "FileTreeModel" ⟨"FileTreeModel", "leave", "(I)Z"⟩ ⟨"FileTreeModel", "leave", "(I)Z"⟩ ∈ lw_g := lw_gi (List.mem_append_right _ (List.mem_of_getElem? (i := 641) (by decide +kernel))) rfl
theorem q_642 : Cond.code ⟨"FileTreeModel", "leave", "(I)Z"⟩ prog_7_method_38_code 3 (Option.some Jvm.ClassFile.FieldType.boolean) ∈ lw_g := lw_gi (List.mem_append_right _ (List.mem_of_getElem? (i := 642) (by decide +kernel))) rfl
theorem q_643 : Cond.methodLink "FileTreeLaw" 51 ⟨"FileTreeModel", "read", "(III)I"⟩ ∈ lw_g := lw_gi (List.mem_append_right _ (List.mem_of_getElem? (i := 643) (by decide +kernel))) rfl
theorem q_644 : Cond.instanceMethod ⟨"FileTreeModel", "read", "(III)I"⟩ ∈ lw_g := lw_gi (List.mem_append_right _ (List.mem_of_getElem? (i := 644) (by decide +kernel))) rfl
theorem q_645 : Cond.selects "FileTreeModel" ⟨"FileTreeModel", "read", "(III)I"⟩ ⟨"FileTreeModel", "read", "(III)I"⟩ ∈ lw_g := lw_gi (List.mem_append_right _ (List.mem_of_getElem? (i := 645) (by decide +kernel))) rfl
theorem q_646 : Cond.code ⟨"FileTreeModel", "read", "(III)I"⟩ prog_7_method_39_code 5 (Option.some Jvm.ClassFile.FieldType.int) ∈ lw_g := lw_gi (List.mem_append_right _ (List.mem_of_getElem? (i := 646) (by decide +kernel))) rfl
theorem q_647 : Cond.methodLink "FileTreeLaw" 55 ⟨"FileTreeModel", "save", "(III)I"⟩ ∈ lw_g := lw_gi (List.mem_append_right _ (List.mem_of_getElem? (i := 647) (by decide +kernel))) rfl
theorem q_648 : Cond.instanceMethod ⟨"FileTreeModel", "save", "(III)I"⟩ ∈ lw_g := lw_gi (List.mem_append_right _ (List.mem_of_getElem? (i := 648) (by decide +kernel))) rfl
theorem q_649 : Cond.selects "FileTreeModel" ⟨"FileTreeModel", "save", "(III)I"⟩ ⟨"FileTreeModel", "save", "(III)I"⟩ ∈ lw_g := lw_gi (List.mem_append_right _ (List.mem_of_getElem? (i := 649) (by decide +kernel))) rfl
theorem q_650 : Cond.code ⟨"FileTreeModel", "save", "(III)I"⟩ prog_7_method_40_code 6 (Option.some Jvm.ClassFile.FieldType.int) ∈ lw_g := lw_gi (List.mem_append_right _ (List.mem_of_getElem? (i := 650) (by decide +kernel))) rfl
theorem q_651 : Cond.methodLink "FileTreeLaw" 59 ⟨"FileTreeModel", "clear", "(I)Z"⟩ ∈ lw_g := lw_gi (List.mem_append_right _ (List.mem_of_getElem? (i := 651) (by decide +kernel))) rfl
theorem q_652 : Cond.instanceMethod ⟨"FileTreeModel", "clear", "(I)Z"⟩ ∈ lw_g := lw_gi (List.mem_append_right _ (List.mem_of_getElem? (i := 652) (by decide +kernel))) rfl
theorem q_653 : Cond.selects "FileTreeModel" ⟨"FileTreeModel", "clear", "(I)Z"⟩ ⟨"FileTreeModel", "clear", "(I)Z"⟩ ∈ lw_g := lw_gi (List.mem_append_right _ (List.mem_of_getElem? (i := 653) (by decide +kernel))) rfl
theorem q_654 : Cond.code ⟨"FileTreeModel", "clear", "(I)Z"⟩ prog_7_method_41_code 2 (Option.some Jvm.ClassFile.FieldType.boolean) ∈ lw_g := lw_gi (List.mem_append_right _ (List.mem_of_getElem? (i := 654) (by decide +kernel))) rfl
theorem q_655 : Cond.methodLink "FileTreeLaw" 64 ⟨"FileTreeModel", "about", "(II)I"⟩ ∈ lw_g := lw_gi (List.mem_append_right _ (List.mem_of_getElem? (i := 655) (by decide +kernel))) rfl
theorem q_656 : Cond.instanceMethod ⟨"FileTreeModel", "about", "(II)I"⟩ ∈ lw_g := lw_gi (List.mem_append_right _ (List.mem_of_getElem? (i := 656) (by decide +kernel))) rfl
theorem q_657 : Cond.selects "FileTreeModel" ⟨"FileTreeModel", "about", "(II)I"⟩ ⟨"FileTreeModel", "about", "(II)I"⟩ ∈ lw_g := lw_gi (List.mem_append_right _ (List.mem_of_getElem? (i := 657) (by decide +kernel))) rfl
theorem q_658 : Cond.code ⟨"FileTreeModel", "about", "(II)I"⟩ prog_7_method_42_code 3 (Option.some Jvm.ClassFile.FieldType.int) ∈ lw_g := lw_gi (List.mem_append_right _ (List.mem_of_getElem? (i := 658) (by decide +kernel))) rfl
theorem q_659 : Cond.methodLink "FileTreeLaw" 69 ⟨"FileTreeModel", "free", "()I"⟩ ∈ lw_g := lw_gi (List.mem_append_right _ (List.mem_of_getElem? (i := 659) (by decide +kernel))) rfl
theorem q_660 : Cond.instanceMethod ⟨"FileTreeModel", "free", "()I"⟩ ∈ lw_g := lw_gi (List.mem_append_right _ (List.mem_of_getElem? (i := 660) (by decide +kernel))) rfl
theorem q_661 : Cond.selects "FileTreeModel" ⟨"FileTreeModel", "free", "()I"⟩ ⟨"FileTreeModel", "free", "()I"⟩ ∈ lw_g := lw_gi (List.mem_append_right _ (List.mem_of_getElem? (i := 661) (by decide +kernel))) rfl
theorem q_662 : Cond.code ⟨"FileTreeModel", "free", "()I"⟩ prog_7_method_43_code 1 (Option.some Jvm.ClassFile.FieldType.int) ∈ lw_g := lw_gi (List.mem_append_right _ (List.mem_of_getElem? (i := 662) (by decide +kernel))) rfl
theorem q_663 : Cond.methodLink "FileTreeLaw" 73 ⟨"FileTreeModel", "forget", "()I"⟩ ∈ lw_g := lw_gi (List.mem_append_right _ (List.mem_of_getElem? (i := 663) (by decide +kernel))) rfl
theorem q_664 : Cond.instanceMethod ⟨"FileTreeModel", "forget", "()I"⟩ ∈ lw_g := lw_gi (List.mem_append_right _ (List.mem_of_getElem? (i := 664) (by decide +kernel))) rfl
theorem q_665 : Cond.selects "FileTreeModel" ⟨"FileTreeModel", "forget", "()I"⟩ ⟨"FileTreeModel", "forget", "()I"⟩ ∈ lw_g := lw_gi (List.mem_append_right _ (List.mem_of_getElem? (i := 665) (by decide +kernel))) rfl
theorem q_666 : Cond.code ⟨"FileTreeModel", "forget", "()I"⟩ prog_7_method_44_code 3 (Option.some Jvm.ClassFile.FieldType.int) ∈ lw_g := lw_gi (List.mem_append_right _ (List.mem_of_getElem? (i := 666) (by decide +kernel))) rfl
theorem q_667 : Cond.methodLink "FileTreeLaw" 78 ⟨"FileTreeModel", "fill", "(III)Z"⟩ ∈ lw_g := lw_gi (List.mem_append_right _ (List.mem_of_getElem? (i := 667) (by decide +kernel))) rfl
theorem q_668 : Cond.instanceMethod ⟨"FileTreeModel", "fill", "(III)Z"⟩ ∈ lw_g := lw_gi (List.mem_append_right _ (List.mem_of_getElem? (i := 668) (by decide +kernel))) rfl
theorem q_669 : Cond.selects "FileTreeModel" ⟨"FileTreeModel", "fill", "(III)Z"⟩ ⟨"FileTreeModel", "fill", "(III)Z"⟩ ∈ lw_g := lw_gi (List.mem_append_right _ (List.mem_of_getElem? (i := 669) (by decide +kernel))) rfl
theorem q_670 : Cond.code ⟨"FileTreeModel", "fill", "(III)Z"⟩ prog_7_method_45_code 5 (Option.some Jvm.ClassFile.FieldType.boolean) ∈ lw_g := lw_gi (List.mem_append_right _ (List.mem_of_getElem? (i := 670) (by decide +kernel))) rfl
theorem q_671 : Cond.methodLink "FileTreeLaw" 82 ⟨"FileTreeModel", "at", "(I)I"⟩ ∈ lw_g := lw_gi (List.mem_append_right _ (List.mem_of_getElem? (i := 671) (by decide +kernel))) rfl
theorem q_672 : Cond.instanceMethod ⟨"FileTreeModel", "at", "(I)I"⟩ ∈ lw_g := lw_gi (List.mem_append_right _ (List.mem_of_getElem? (i := 672) (by decide +kernel))) rfl
theorem q_673 : Cond.selects "FileTreeModel" ⟨"FileTreeModel", "at", "(I)I"⟩ ⟨"FileTreeModel", "at", "(I)I"⟩ ∈ lw_g := lw_gi (List.mem_append_right _ (List.mem_of_getElem? (i := 673) (by decide +kernel))) rfl
theorem q_674 : Cond.code ⟨"FileTreeModel", "at", "(I)I"⟩ prog_7_method_46_code 2 (Option.some Jvm.ClassFile.FieldType.int) ∈ lw_g := lw_gi (List.mem_append_right _ (List.mem_of_getElem? (i := 674) (by decide +kernel))) rfl
theorem q_675 : Cond.methodLink "FileTreeLaw" 86 ⟨"FileTreeModel", "peek", "(II)I"⟩ ∈ lw_g := lw_gi (List.mem_append_right _ (List.mem_of_getElem? (i := 675) (by decide +kernel))) rfl
theorem q_676 : Cond.instanceMethod ⟨"FileTreeModel", "peek", "(II)I"⟩ ∈ lw_g := lw_gi (List.mem_append_right _ (List.mem_of_getElem? (i := 676) (by decide +kernel))) rfl
theorem q_677 : Cond.selects "FileTreeModel" ⟨"FileTreeModel", "peek", "(II)I"⟩ ⟨"FileTreeModel", "peek", "(II)I"⟩ ∈ lw_g := lw_gi (List.mem_append_right _ (List.mem_of_getElem? (i := 677) (by decide +kernel))) rfl
theorem q_678 : Cond.code ⟨"FileTreeModel", "peek", "(II)I"⟩ prog_7_method_51_code 3 (Option.some Jvm.ClassFile.FieldType.int) ∈ lw_g := lw_gi (List.mem_append_right _ (List.mem_of_getElem? (i := 678) (by decide +kernel))) rfl
theorem q_679 : Cond.methodLink "FileTreeModel" 172 ⟨"FileTreeModel", "superByte", "(I)I"⟩ ∈ lw_g := lw_gi (List.mem_append_right _ (List.mem_of_getElem? (i := 679) (by decide +kernel))) rfl
theorem q_681 : Cond.instanceMethod ⟨"FileTreeModel", "superByte", "(I)I"⟩ ∈ lw_g := lw_gi (List.mem_append_right _ (List.mem_of_getElem? (i := 681) (by decide +kernel))) rfl
theorem q_682 : Cond.code ⟨"FileTreeModel", "superByte", "(I)I"⟩ prog_7_method_48_code 2 (Option.some Jvm.ClassFile.FieldType.int) ∈ lw_g := lw_gi (List.mem_append_right _ (List.mem_of_getElem? (i := 682) (by decide +kernel))) rfl
theorem q_683 : Cond.methodLink "FileTreeModel" 169 ⟨"FileTreeModel", "of", "(II)I"⟩ ∈ lw_g := lw_gi (List.mem_append_right _ (List.mem_of_getElem? (i := 683) (by decide +kernel))) rfl
theorem q_684 : Cond.static ⟨"FileTreeModel", "of", "(II)I"⟩ ∈ lw_g := lw_gi (List.mem_append_right _ (List.mem_of_getElem? (i := 684) (by decide +kernel))) rfl
theorem q_685 : Cond.code ⟨"FileTreeModel", "of", "(II)I"⟩ prog_7_method_47_code 2 (Option.some Jvm.ClassFile.FieldType.int) ∈ lw_g := lw_gi (List.mem_append_right _ (List.mem_of_getElem? (i := 685) (by decide +kernel))) rfl
theorem q_686 : Cond.methodLink "FileTreeModel" 175 ⟨"FileTreeModel", "mapByte", "(I)I"⟩ ∈ lw_g := lw_gi (List.mem_append_right _ (List.mem_of_getElem? (i := 686) (by decide +kernel))) rfl
theorem q_688 : Cond.instanceMethod ⟨"FileTreeModel", "mapByte", "(I)I"⟩ ∈ lw_g := lw_gi (List.mem_append_right _ (List.mem_of_getElem? (i := 688) (by decide +kernel))) rfl
theorem q_689 : Cond.code ⟨"FileTreeModel", "mapByte", "(I)I"⟩ prog_7_method_50_code 4 (Option.some Jvm.ClassFile.FieldType.int) ∈ lw_g := lw_gi (List.mem_append_right _ (List.mem_of_getElem? (i := 689) (by decide +kernel))) rfl
theorem q_690 : Cond.methodLink "FileTreeModel" 178 ⟨"FileTreeModel", "inodeByte", "(II)I"⟩ ∈ lw_g := lw_gi (List.mem_append_right _ (List.mem_of_getElem? (i := 690) (by decide +kernel))) rfl
theorem q_692 : Cond.instanceMethod ⟨"FileTreeModel", "inodeByte", "(II)I"⟩ ∈ lw_g := lw_gi (List.mem_append_right _ (List.mem_of_getElem? (i := 692) (by decide +kernel))) rfl
theorem q_693 : Cond.code ⟨"FileTreeModel", "inodeByte", "(II)I"⟩ prog_7_method_49_code 4 (Option.some Jvm.ClassFile.FieldType.int) ∈ lw_g := lw_gi (List.mem_append_right _ (List.mem_of_getElem? (i := 693) (by decide +kernel))) rfl
theorem q_694 : Cond.constantLong "FileTreeLaw" 13 4294967295 ∈ lw_g := lw_gi (List.mem_append_right _ (List.mem_of_getElem? (i := 694) (by decide +kernel))) rfl
theorem qs_0 : Cond.selects "FileTree$Disk" ⟨"FileTree$Disk", "mark", "(IZ)V"⟩ ⟨"FileTree$Disk", "mark", "(IZ)V"⟩ ∈ lw_g := lw_gi (List.mem_append_left _ (List.mem_of_getElem? (i := 0) (by decide +kernel))) rfl
theorem qs_1 : Cond.selects "FileTree$Inodes" ⟨"FileTree$Inodes", "placeOf", "(I)I"⟩ ⟨"FileTree$Inodes", "placeOf", "(I)I"⟩ ∈ lw_g := lw_gi (List.mem_append_left _ (List.mem_of_getElem? (i := 1) (by decide +kernel))) rfl
theorem qs_2 : Cond.selects "FileTree$Directories" ⟨"FileTree$Directories", "freeEntry", "(I)I"⟩ ⟨"FileTree$Directories", "freeEntry", "(I)I"⟩ ∈ lw_g := lw_gi (List.mem_append_left _ (List.mem_of_getElem? (i := 2) (by decide +kernel))) rfl
theorem qs_3 : Cond.selects "FileTree$Directories" ⟨"FileTree$Directories", "sizeOf", "(I)I"⟩ ⟨"FileTree$Directories", "sizeOf", "(I)I"⟩ ∈ lw_g := lw_gi (List.mem_append_left _ (List.mem_of_getElem? (i := 3) (by decide +kernel))) rfl
theorem qs_4 : Cond.selects "FileTree$Inodes" ⟨"FileTree$Inodes", "slotOf", "(II)I"⟩ ⟨"FileTree$Inodes", "slotOf", "(II)I"⟩ ∈ lw_g := lw_gi (List.mem_append_left _ (List.mem_of_getElem? (i := 4) (by decide +kernel))) rfl
theorem qs_5 : Cond.selects "FileTree$Directories" ⟨"FileTree$Directories", "nameByte", "([BI)I"⟩ ⟨"FileTree$Directories", "nameByte", "([BI)I"⟩ ∈ lw_g := lw_gi (List.mem_append_left _ (List.mem_of_getElem? (i := 5) (by decide +kernel))) rfl
theorem qs_6 : Cond.selects "FileTree" ⟨"FileTree", "lead", "(III)I"⟩ ⟨"FileTree", "lead", "(III)I"⟩ ∈ lw_g := lw_gi (List.mem_append_left _ (List.mem_of_getElem? (i := 6) (by decide +kernel))) rfl
theorem qs_7 : Cond.selects "FileTree$Directories" ⟨"FileTree$Directories", "hasName", "(I[B)Z"⟩ ⟨"FileTree$Directories", "hasName", "(I[B)Z"⟩ ∈ lw_g := lw_gi (List.mem_append_left _ (List.mem_of_getElem? (i := 7) (by decide +kernel))) rfl
theorem qs_8 : Cond.selects "FileTreeModel" ⟨"FileTreeModel", "begins", "(II)V"⟩ ⟨"FileTreeModel", "begins", "(II)V"⟩ ∈ lw_g := lw_gi (List.mem_append_left _ (List.mem_of_getElem? (i := 8) (by decide +kernel))) rfl
theorem qs_9 : Cond.selects "FileTreeModel" ⟨"FileTreeModel", "grow", "(I)V"⟩ ⟨"FileTreeModel", "grow", "(I)V"⟩ ∈ lw_g := lw_gi (List.mem_append_left _ (List.mem_of_getElem? (i := 9) (by decide +kernel))) rfl
theorem qs_10 : Cond.selects "FileTreeModel" ⟨"FileTreeModel", "take", "()I"⟩ ⟨"FileTreeModel", "take", "()I"⟩ ∈ lw_g := lw_gi (List.mem_append_left _ (List.mem_of_getElem? (i := 10) (by decide +kernel))) rfl
theorem qs_11 : Cond.selects "FileTreeModel" ⟨"FileTreeModel", "putNumber", "(III)V"⟩ ⟨"FileTreeModel", "putNumber", "(III)V"⟩ ∈ lw_g := lw_gi (List.mem_append_left _ (List.mem_of_getElem? (i := 11) (by decide +kernel))) rfl
theorem qs_12 : Cond.selects "FileTreeModel" ⟨"FileTreeModel", "dots", "(I)V"⟩ ⟨"FileTreeModel", "dots", "(I)V"⟩ ∈ lw_g := lw_gi (List.mem_append_left _ (List.mem_of_getElem? (i := 12) (by decide +kernel))) rfl
theorem qs_13 : Cond.selects "FileTreeModel" ⟨"FileTreeModel", "lay", "(III)V"⟩ ⟨"FileTreeModel", "lay", "(III)V"⟩ ∈ lw_g := lw_gi (List.mem_append_left _ (List.mem_of_getElem? (i := 13) (by decide +kernel))) rfl
theorem qs_14 : Cond.selects "FileTreeModel" ⟨"FileTreeModel", "place", "(II)I"⟩ ⟨"FileTreeModel", "place", "(II)I"⟩ ∈ lw_g := lw_gi (List.mem_append_left _ (List.mem_of_getElem? (i := 14) (by decide +kernel))) rfl
theorem qs_15 : Cond.selects "FileTreeModel" ⟨"FileTreeModel", "taken", "()I"⟩ ⟨"FileTreeModel", "taken", "()I"⟩ ∈ lw_g := lw_gi (List.mem_append_left _ (List.mem_of_getElem? (i := 15) (by decide +kernel))) rfl
theorem qs_16 : Cond.selects "FileTreeModel" ⟨"FileTreeModel", "leads", "(III)I"⟩ ⟨"FileTreeModel", "leads", "(III)I"⟩ ∈ lw_g := lw_gi (List.mem_append_left _ (List.mem_of_getElem? (i := 16) (by decide +kernel))) rfl
theorem qs_17 : Cond.selects "FileTreeModel" ⟨"FileTreeModel", "begin", "(III)I"⟩ ⟨"FileTreeModel", "begin", "(III)I"⟩ ∈ lw_g := lw_gi (List.mem_append_left _ (List.mem_of_getElem? (i := 17) (by decide +kernel))) rfl
theorem qs_18 : Cond.selects "FileTreeModel" ⟨"FileTreeModel", "there", "(I)Z"⟩ ⟨"FileTreeModel", "there", "(I)Z"⟩ ∈ lw_g := lw_gi (List.mem_append_left _ (List.mem_of_getElem? (i := 18) (by decide +kernel))) rfl
theorem qs_19 : Cond.selects "FileTreeModel" ⟨"FileTreeModel", "named", "()Z"⟩ ⟨"FileTreeModel", "named", "()Z"⟩ ∈ lw_g := lw_gi (List.mem_append_left _ (List.mem_of_getElem? (i := 19) (by decide +kernel))) rfl
theorem qs_20 : Cond.selects "FileTreeModel" ⟨"FileTreeModel", "slashes", "()V"⟩ ⟨"FileTreeModel", "slashes", "()V"⟩ ∈ lw_g := lw_gi (List.mem_append_left _ (List.mem_of_getElem? (i := 20) (by decide +kernel))) rfl
theorem qs_21 : Cond.selects "FileTreeModel" ⟨"FileTreeModel", "step", "(I)I"⟩ ⟨"FileTreeModel", "step", "(I)I"⟩ ∈ lw_g := lw_gi (List.mem_append_left _ (List.mem_of_getElem? (i := 21) (by decide +kernel))) rfl
theorem qs_22 : Cond.selects "FileTreeModel" ⟨"FileTreeModel", "entry", "(I)I"⟩ ⟨"FileTreeModel", "entry", "(I)I"⟩ ∈ lw_g := lw_gi (List.mem_append_left _ (List.mem_of_getElem? (i := 22) (by decide +kernel))) rfl
theorem qs_23 : Cond.selects "FileTreeModel" ⟨"FileTreeModel", "numberAt", "(II)I"⟩ ⟨"FileTreeModel", "numberAt", "(II)I"⟩ ∈ lw_g := lw_gi (List.mem_append_left _ (List.mem_of_getElem? (i := 23) (by decide +kernel))) rfl
theorem qs_24 : Cond.selects "FileTreeModel" ⟨"FileTreeModel", "before", "(III)I"⟩ ⟨"FileTreeModel", "before", "(III)I"⟩ ∈ lw_g := lw_gi (List.mem_append_left _ (List.mem_of_getElem? (i := 24) (by decide +kernel))) rfl
theorem qs_25 : Cond.selects "FileTreeModel" ⟨"FileTreeModel", "wants", "(I)I"⟩ ⟨"FileTreeModel", "wants", "(I)I"⟩ ∈ lw_g := lw_gi (List.mem_append_left _ (List.mem_of_getElem? (i := 25) (by decide +kernel))) rfl
theorem qs_26 : Cond.selects "FileTreeModel" ⟨"FileTreeModel", "vacant", "(I)I"⟩ ⟨"FileTreeModel", "vacant", "(I)I"⟩ ∈ lw_g := lw_gi (List.mem_append_left _ (List.mem_of_getElem? (i := 26) (by decide +kernel))) rfl
theorem qs_27 : Cond.selects "FileTreeModel" ⟨"FileTreeModel", "next", "(I)I"⟩ ⟨"FileTreeModel", "next", "(I)I"⟩ ∈ lw_g := lw_gi (List.mem_append_left _ (List.mem_of_getElem? (i := 27) (by decide +kernel))) rfl
theorem qs_28 : Cond.selects "FileTreeModel" ⟨"FileTreeModel", "left", "()I"⟩ ⟨"FileTreeModel", "left", "()I"⟩ ∈ lw_g := lw_gi (List.mem_append_left _ (List.mem_of_getElem? (i := 28) (by decide +kernel))) rfl
theorem qs_29 : Cond.selects "FileTreeModel" ⟨"FileTreeModel", "again", "()V"⟩ ⟨"FileTreeModel", "again", "()V"⟩ ∈ lw_g := lw_gi (List.mem_append_left _ (List.mem_of_getElem? (i := 29) (by decide +kernel))) rfl
theorem qs_30 : Cond.selects "FileTreeModel" ⟨"FileTreeModel", "enter", "(II)V"⟩ ⟨"FileTreeModel", "enter", "(II)V"⟩ ∈ lw_g := lw_gi (List.mem_append_left _ (List.mem_of_getElem? (i := 30) (by decide +kernel))) rfl
theorem qs_31 : Cond.selects "FileTreeModel" ⟨"FileTreeModel", "isDots", "()Z"⟩ ⟨"FileTreeModel", "isDots", "()Z"⟩ ∈ lw_g := lw_gi (List.mem_append_left _ (List.mem_of_getElem? (i := 31) (by decide +kernel))) rfl
theorem qs_32 : Cond.selects "FileTreeModel" ⟨"FileTreeModel", "isBare", "(I)Z"⟩ ⟨"FileTreeModel", "isBare", "(I)Z"⟩ ∈ lw_g := lw_gi (List.mem_append_left _ (List.mem_of_getElem? (i := 32) (by decide +kernel))) rfl
theorem qs_33 : Cond.selects "FileTreeModel" ⟨"FileTreeModel", "erase", "(II)V"⟩ ⟨"FileTreeModel", "erase", "(II)V"⟩ ∈ lw_g := lw_gi (List.mem_append_left _ (List.mem_of_getElem? (i := 33) (by decide +kernel))) rfl
theorem qs_34 : Cond.selects "FileTreeModel" ⟨"FileTreeModel", "ends", "(I)Z"⟩ ⟨"FileTreeModel", "ends", "(I)Z"⟩ ∈ lw_g := lw_gi (List.mem_append_left _ (List.mem_of_getElem? (i := 34) (by decide +kernel))) rfl
theorem qs_35 : Cond.selects "FileTreeModel" ⟨"FileTreeModel", "empty", "(I)V"⟩ ⟨"FileTreeModel", "empty", "(I)V"⟩ ∈ lw_g := lw_gi (List.mem_append_left _ (List.mem_of_getElem? (i := 35) (by decide +kernel))) rfl
theorem qs_36 : Cond.selects "FileTreeModel" ⟨"FileTreeModel", "superByte", "(I)I"⟩ ⟨"FileTreeModel", "superByte", "(I)I"⟩ ∈ lw_g := lw_gi (List.mem_append_left _ (List.mem_of_getElem? (i := 36) (by decide +kernel))) rfl
theorem qs_37 : Cond.selects "FileTreeModel" ⟨"FileTreeModel", "mapByte", "(I)I"⟩ ⟨"FileTreeModel", "mapByte", "(I)I"⟩ ∈ lw_g := lw_gi (List.mem_append_left _ (List.mem_of_getElem? (i := 37) (by decide +kernel))) rfl
theorem qs_38 : Cond.selects "FileTreeModel" ⟨"FileTreeModel", "inodeByte", "(II)I"⟩ ⟨"FileTreeModel", "inodeByte", "(II)I"⟩ ∈ lw_g := lw_gi (List.mem_append_left _ (List.mem_of_getElem? (i := 38) (by decide +kernel))) rfl
