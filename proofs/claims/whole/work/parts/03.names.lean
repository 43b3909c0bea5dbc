theorem goodIn_r1 (ws : List Cond) (ps : List Nat) (hp : ws = ps.filterMap (fun i => lw_tbl[i]?)) (hg : ws.all goodWord = true) : ∀ w ∈ ws, w ∈ lw_g := by
  intro w hw
  have h1 := List.all_eq_true.mp hg w hw
  rw [hp] at hw
  obtain ⟨i, -, hi⟩ := List.mem_filterMap.mp hw
  exact lw_gi (List.mem_of_getElem? hi) h1
theorem gd_cons {c : Cond} {ws : List Cond} (h : c ∈ lw_g ∧ goodWord c = true) (hw : GoodIn lw_g ws) : GoodIn lw_g (c :: ws) := fun w hw2 => (List.mem_cons.mp hw2).elim (fun e => by rw [e]; exact ⟨h.1, good_of_word h.2⟩) (hw w)
abbrev kw (y : MethodName) (b : ByteArray) (n : Nat) (r : Option FieldType) : List Cond := Cond.code y b n r :: lw_g
def ko (C : String) (y : MethodName) (b : ByteArray) (n : Nat) (r : Option FieldType) : Prop := Cond.instanceMethod y ∈ lw_g ∧ Cond.selects C y y ∈ lw_g ∧ Cond.initialized C ∈ lw_g ∧ Cond.code y b n r ∈ lw_g
def kos (y : MethodName) (b : ByteArray) (n : Nat) (r : Option FieldType) : Prop := Cond.static y ∈ lw_g ∧ Cond.initialized y.cls ∈ lw_g ∧ Cond.code y b n r ∈ lw_g
theorem gd_V {own : String} {idx : Nat} {C : String} {y : MethodName} {b : ByteArray} {n : Nat} {r : Option FieldType} (hl : Cond.methodLink own idx y ∈ lw_g) (h : ko C y b n r) : GoodIn lw_g (wsV own idx C y (kw y b n r)) := gd_cons ⟨hl, rfl⟩ (gd_cons ⟨h.1, rfl⟩ (gd_cons ⟨h.2.1, rfl⟩ (gd_cons ⟨h.2.2.1, rfl⟩ (gd_cons ⟨h.2.2.2, rfl⟩ lw_good))))
theorem gd_S {own : String} {idx : Nat} {y : MethodName} {b : ByteArray} {n : Nat} {r : Option FieldType} (hl : Cond.methodLink own idx y ∈ lw_g) (h : kos y b n r) : GoodIn lw_g (va_wsS own idx y (kw y b n r)) := gd_cons ⟨hl, rfl⟩ (gd_cons ⟨h.1, rfl⟩ (gd_cons ⟨h.2.1, rfl⟩ (gd_cons ⟨h.2.2, rfl⟩ lw_good)))
theorem gd_C {y : MethodName} {b : ByteArray} {n : Nat} {r : Option FieldType} (h : Cond.code y b n r ∈ lw_g) : GoodIn lw_g (kw y b n r) := gd_cons ⟨h, rfl⟩ lw_good
def ft_D : u_T := fun k => match k with
  | 0 => ("FileTree$Directories", "inodes", "LFileTree$Inodes;", true)
  | _ => ("FileTree$Directories", "disk", "LFileTree$Disk;", true)
def fy_D : Nat → FieldType := fun k => match k with
  | 0 => .object "FileTree$Inodes"
  | _ => .object "FileTree$Disk"
theorem fn_D : ∀ a, a < 2 → ∀ b, b < 2 → a ≠ b → (ft_D a).2.1 ≠ (ft_D b).2.1 := by decide +kernel
theorem fo_D : ∀ k, k < 2 → parseFieldDescriptor (ft_D k).2.2.1 = some (fy_D k) := by decide +kernel
theorem fi_D : ∀ w ∈ u_ws "FileTree$Directories" ft_D 2, w ∈ lw_g := fun w h => (goodIn_r1 _ [92, 94] (by decide +kernel) (by decide +kernel) w h)
def ft_K : u_T := fun k => match k with
  | _ => ("FileTree$Disk", "words", "[I", true)
def fy_K : Nat → FieldType := fun k => match k with
  | _ => .array .int
theorem fn_K : ∀ a, a < 1 → ∀ b, b < 1 → a ≠ b → (ft_K a).2.1 ≠ (ft_K b).2.1 := by decide +kernel
theorem fo_K : ∀ k, k < 1 → parseFieldDescriptor (ft_K k).2.2.1 = some (fy_K k) := by decide +kernel
theorem fi_K : ∀ w ∈ u_ws "FileTree$Disk" ft_K 1, w ∈ lw_g := fun w h => (goodIn_r1 _ [76] (by decide +kernel) (by decide +kernel) w h)
def ft_I : u_T := fun k => match k with
  | 0 => ("FileTree$Inodes", "disk", "LFileTree$Disk;", true)
  | _ => ("FileTree$Inodes", "held", "[I", true)
def fy_I : Nat → FieldType := fun k => match k with
  | 0 => .object "FileTree$Disk"
  | _ => .array .int
theorem fn_I : ∀ a, a < 2 → ∀ b, b < 2 → a ≠ b → (ft_I a).2.1 ≠ (ft_I b).2.1 := by decide +kernel
theorem fo_I : ∀ k, k < 2 → parseFieldDescriptor (ft_I k).2.2.1 = some (fy_I k) := by decide +kernel
theorem fi_I : ∀ w ∈ u_ws "FileTree$Inodes" ft_I 2, w ∈ lw_g := fun w h => (goodIn_r1 _ [84, 86] (by decide +kernel) (by decide +kernel) w h)
def ft_X : u_T := fun k => match k with
  | 0 => ("FileTree$Text", "bytes", "[B", true)
  | 1 => ("FileTree$Text", "name", "[B", true)
  | 2 => ("FileTree$Text", "last", "[B", true)
  | _ => ("FileTree$Text", "length", "I", false)
def fy_X : Nat → FieldType := fun k => match k with
  | 0 => .array .byte
  | 1 => .array .byte
  | 2 => .array .byte
  | _ => .int
theorem fn_X : ∀ a, a < 4 → ∀ b, b < 4 → a ≠ b → (ft_X a).2.1 ≠ (ft_X b).2.1 := by decide +kernel
theorem fo_X : ∀ k, k < 4 → parseFieldDescriptor (ft_X k).2.2.1 = some (fy_X k) := by decide +kernel
theorem fi_X : ∀ w ∈ u_ws "FileTree$Text" ft_X 4, w ∈ lw_g := fun w h => (goodIn_r1 _ [110, 112, 114, 116] (by decide +kernel) (by decide +kernel) w h)
def ft_T : u_T := fun k => match k with
  | 0 => ("FileTree", "directories", "LFileTree$Directories;", true)
  | 1 => ("FileTree", "inodes", "LFileTree$Inodes;", true)
  | 2 => ("FileTree", "disk", "LFileTree$Disk;", true)
  | 3 => ("FileTree", "text", "LFileTree$Text;", true)
  | _ => ("FileTree", "buffer", "[B", true)
def fy_T : Nat → FieldType := fun k => match k with
  | 0 => .object "FileTree$Directories"
  | 1 => .object "FileTree$Inodes"
  | 2 => .object "FileTree$Disk"
  | 3 => .object "FileTree$Text"
  | _ => .array .byte
theorem fn_T : ∀ a, a < 5 → ∀ b, b < 5 → a ≠ b → (ft_T a).2.1 ≠ (ft_T b).2.1 := by decide +kernel
theorem fo_T : ∀ k, k < 5 → parseFieldDescriptor (ft_T k).2.2.1 = some (fy_T k) := by decide +kernel
theorem fi_T : ∀ w ∈ u_ws "FileTree" ft_T 5, w ∈ lw_g := fun w h => (goodIn_r1 _ [251, 253, 255, 257, 259] (by decide +kernel) (by decide +kernel) w h)
def ft_M : u_T := fun k => match k with
  | 0 => ("FileTreeModel", "thrown", "I", false)
  | 1 => ("FileTreeModel", "typed", "I", false)
  | 2 => ("FileTreeModel", "text", "[B", true)
  | 3 => ("FileTreeModel", "buffer", "[B", true)
  | 4 => ("FileTreeModel", "disk", "[B", true)
  | 5 => ("FileTreeModel", "used", "[Z", true)
  | 6 => ("FileTreeModel", "kind", "[I", true)
  | 7 => ("FileTreeModel", "major", "[I", true)
  | 8 => ("FileTreeModel", "minor", "[I", true)
  | 9 => ("FileTreeModel", "links", "[I", true)
  | 10 => ("FileTreeModel", "size", "[I", true)
  | 11 => ("FileTreeModel", "held", "[I", true)
  | 12 => ("FileTreeModel", "many", "[I", true)
  | 13 => ("FileTreeModel", "blocks", "[I", true)
  | 14 => ("FileTreeModel", "numbers", "[I", true)
  | 15 => ("FileTreeModel", "p", "I", false)
  | 16 => ("FileTreeModel", "end", "I", false)
  | _ => ("FileTreeModel", "name", "[B", true)
def fy_M : Nat → FieldType := fun k => match k with
  | 0 => .int
  | 1 => .int
  | 2 => .array .byte
  | 3 => .array .byte
  | 4 => .array .byte
  | 5 => .array .boolean
  | 6 => .array .int
  | 7 => .array .int
  | 8 => .array .int
  | 9 => .array .int
  | 10 => .array .int
  | 11 => .array .int
  | 12 => .array .int
  | 13 => .array .int
  | 14 => .array .int
  | 15 => .int
  | 16 => .int
  | _ => .array .byte
theorem fn_M : ∀ a, a < 18 → ∀ b, b < 18 → a ≠ b → (ft_M a).2.1 ≠ (ft_M b).2.1 := by decide +kernel
theorem fo_M : ∀ k, k < 18 → parseFieldDescriptor (ft_M k).2.2.1 = some (fy_M k) := by decide +kernel
theorem fi_M : ∀ w ∈ u_ws "FileTreeModel" ft_M 18, w ∈ lw_g := fun w h => (goodIn_r1 _ [526, 528, 530, 532, 534, 536, 538, 540, 542, 544, 546, 548, 550, 552, 554, 556, 558, 560] (by decide +kernel) (by decide +kernel) w h)
abbrev vcl : List vw_C := [("FileTree$Directories", ft_D, 2), ("FileTree$Disk", ft_K, 1), ("FileTree$Inodes", ft_I, 2), ("FileTree$Text", ft_X, 4), ("FileTree", ft_T, 5), ("FileTreeModel", ft_M, 18)]
abbrev kc_T_init : ByteArray := prog_1_method_1_code
abbrev ky_T_init : MethodName := ⟨"FileTree", "<init>", "()V"⟩
abbrev kw_T_init : List Cond := kw ky_T_init kc_T_init 1 none
abbrev kc_T_write : ByteArray := prog_1_method_2_code
abbrev ky_T_write : MethodName := ⟨"FileTree", "write", "(J)Z"⟩
abbrev kw_T_write : List Cond := kw ky_T_write kc_T_write 3 (some .boolean)
theorem ko_T_write : ko "FileTree" ky_T_write kc_T_write 3 (some .boolean) := ⟨q_224, q_225, q_1, q_226⟩
theorem kh_T_write : (ky_T_write).cls = "FileTree" ∧ (ky_T_write).cls ≠ "java/lang/invoke/MethodHandle" ∧ (ky_T_write).cls ≠ "java/lang/invoke/VarHandle" ∧ (parseMethodDescriptor (ky_T_write).desc).map (fun d => d.parameters.length) = some 1 := by decide +kernel
abbrev kc_T_find : ByteArray := prog_1_method_3_code
abbrev ky_T_find : MethodName := ⟨"FileTree", "find", "(I)I"⟩
abbrev kw_T_find : List Cond := kw ky_T_find kc_T_find 3 (some .int)
theorem ko_T_find : ko "FileTree" ky_T_find kc_T_find 3 (some .int) := ⟨q_233, q_234, q_1, q_235⟩
theorem kh_T_find : (ky_T_find).cls = "FileTree" ∧ (ky_T_find).cls ≠ "java/lang/invoke/MethodHandle" ∧ (ky_T_find).cls ≠ "java/lang/invoke/VarHandle" ∧ (parseMethodDescriptor (ky_T_find).desc).map (fun d => d.parameters.length) = some 1 := by decide +kernel
abbrev kc_T_create : ByteArray := prog_1_method_4_code
abbrev ky_T_create : MethodName := ⟨"FileTree", "create", "(IIII)I"⟩
abbrev kw_T_create : List Cond := kw ky_T_create kc_T_create 9 (some .int)
theorem ko_T_create : ko "FileTree" ky_T_create kc_T_create 9 (some .int) := ⟨q_277, q_278, q_1, q_279⟩
theorem kh_T_create : (ky_T_create).cls = "FileTree" ∧ (ky_T_create).cls ≠ "java/lang/invoke/MethodHandle" ∧ (ky_T_create).cls ≠ "java/lang/invoke/VarHandle" ∧ (parseMethodDescriptor (ky_T_create).desc).map (fun d => d.parameters.length) = some 4 := by decide +kernel
abbrev kc_T_link : ByteArray := prog_1_method_5_code
abbrev ky_T_link : MethodName := ⟨"FileTree", "link", "(I)I"⟩
abbrev kw_T_link : List Cond := kw ky_T_link kc_T_link 5 (some .int)
theorem ko_T_link : ko "FileTree" ky_T_link kc_T_link 5 (some .int) := ⟨q_303, q_304, q_1, q_305⟩
theorem kh_T_link : (ky_T_link).cls = "FileTree" ∧ (ky_T_link).cls ≠ "java/lang/invoke/MethodHandle" ∧ (ky_T_link).cls ≠ "java/lang/invoke/VarHandle" ∧ (parseMethodDescriptor (ky_T_link).desc).map (fun d => d.parameters.length) = some 1 := by decide +kernel
abbrev kc_T_unlink : ByteArray := prog_1_method_6_code
abbrev ky_T_unlink : MethodName := ⟨"FileTree", "unlink", "(I)I"⟩
abbrev kw_T_unlink : List Cond := kw ky_T_unlink kc_T_unlink 5 (some .int)
theorem ko_T_unlink : ko "FileTree" ky_T_unlink kc_T_unlink 5 (some .int) := ⟨q_313, q_314, q_1, q_315⟩
theorem kh_T_unlink : (ky_T_unlink).cls = "FileTree" ∧ (ky_T_unlink).cls ≠ "java/lang/invoke/MethodHandle" ∧ (ky_T_unlink).cls ≠ "java/lang/invoke/VarHandle" ∧ (parseMethodDescriptor (ky_T_unlink).desc).map (fun d => d.parameters.length) = some 1 := by decide +kernel
abbrev kc_T_hold : ByteArray := prog_1_method_7_code
abbrev ky_T_hold : MethodName := ⟨"FileTree", "hold", "(I)Z"⟩
abbrev kw_T_hold : List Cond := kw ky_T_hold kc_T_hold 2 (some .boolean)
theorem ko_T_hold : ko "FileTree" ky_T_hold kc_T_hold 2 (some .boolean) := ⟨q_352, q_353, q_1, q_354⟩
theorem kh_T_hold : (ky_T_hold).cls = "FileTree" ∧ (ky_T_hold).cls ≠ "java/lang/invoke/MethodHandle" ∧ (ky_T_hold).cls ≠ "java/lang/invoke/VarHandle" ∧ (parseMethodDescriptor (ky_T_hold).desc).map (fun d => d.parameters.length) = some 1 := by decide +kernel
abbrev kc_T_leave : ByteArray := prog_1_method_8_code
abbrev ky_T_leave : MethodName := ⟨"FileTree", "leave", "(I)Z"⟩
abbrev kw_T_leave : List Cond := kw ky_T_leave kc_T_leave 2 (some .boolean)
theorem ko_T_leave : ko "FileTree" ky_T_leave kc_T_leave 2 (some .boolean) := ⟨q_360, q_361, q_1, q_362⟩
theorem kh_T_leave : (ky_T_leave).cls = "FileTree" ∧ (ky_T_leave).cls ≠ "java/lang/invoke/MethodHandle" ∧ (ky_T_leave).cls ≠ "java/lang/invoke/VarHandle" ∧ (parseMethodDescriptor (ky_T_leave).desc).map (fun d => d.parameters.length) = some 1 := by decide +kernel
abbrev kc_T_read : ByteArray := prog_1_method_9_code
abbrev ky_T_read : MethodName := ⟨"FileTree", "read", "(III)I"⟩
abbrev kw_T_read : List Cond := kw ky_T_read kc_T_read 6 (some .int)
theorem ko_T_read : ko "FileTree" ky_T_read kc_T_read 6 (some .int) := ⟨q_365, q_366, q_1, q_367⟩
theorem kh_T_read : (ky_T_read).cls = "FileTree" ∧ (ky_T_read).cls ≠ "java/lang/invoke/MethodHandle" ∧ (ky_T_read).cls ≠ "java/lang/invoke/VarHandle" ∧ (parseMethodDescriptor (ky_T_read).desc).map (fun d => d.parameters.length) = some 3 := by decide +kernel
abbrev kc_T_save : ByteArray := prog_1_method_10_code
abbrev ky_T_save : MethodName := ⟨"FileTree", "save", "(III)I"⟩
abbrev kw_T_save : List Cond := kw ky_T_save kc_T_save 4 (some .int)
theorem ko_T_save : ko "FileTree" ky_T_save kc_T_save 4 (some .int) := ⟨q_382, q_383, q_1, q_384⟩
theorem kh_T_save : (ky_T_save).cls = "FileTree" ∧ (ky_T_save).cls ≠ "java/lang/invoke/MethodHandle" ∧ (ky_T_save).cls ≠ "java/lang/invoke/VarHandle" ∧ (parseMethodDescriptor (ky_T_save).desc).map (fun d => d.parameters.length) = some 3 := by decide +kernel
abbrev kc_T_clear : ByteArray := prog_1_method_11_code
abbrev ky_T_clear : MethodName := ⟨"FileTree", "clear", "(I)Z"⟩
abbrev kw_T_clear : List Cond := kw ky_T_clear kc_T_clear 2 (some .boolean)
theorem ko_T_clear : ko "FileTree" ky_T_clear kc_T_clear 2 (some .boolean) := ⟨q_394, q_395, q_1, q_396⟩
theorem kh_T_clear : (ky_T_clear).cls = "FileTree" ∧ (ky_T_clear).cls ≠ "java/lang/invoke/MethodHandle" ∧ (ky_T_clear).cls ≠ "java/lang/invoke/VarHandle" ∧ (parseMethodDescriptor (ky_T_clear).desc).map (fun d => d.parameters.length) = some 1 := by decide +kernel
abbrev kc_T_about : ByteArray := prog_1_method_12_code
abbrev ky_T_about : MethodName := ⟨"FileTree", "about", "(II)I"⟩
abbrev kw_T_about : List Cond := kw ky_T_about kc_T_about 3 (some .int)
theorem ko_T_about : ko "FileTree" ky_T_about kc_T_about 3 (some .int) := ⟨q_400, q_401, q_1, q_402⟩
theorem kh_T_about : (ky_T_about).cls = "FileTree" ∧ (ky_T_about).cls ≠ "java/lang/invoke/MethodHandle" ∧ (ky_T_about).cls ≠ "java/lang/invoke/VarHandle" ∧ (parseMethodDescriptor (ky_T_about).desc).map (fun d => d.parameters.length) = some 2 := by decide +kernel
abbrev kc_T_free : ByteArray := prog_1_method_13_code
abbrev ky_T_free : MethodName := ⟨"FileTree", "free", "()I"⟩
abbrev kw_T_free : List Cond := kw ky_T_free kc_T_free 1 (some .int)
theorem ko_T_free : ko "FileTree" ky_T_free kc_T_free 1 (some .int) := ⟨q_413, q_414, q_1, q_415⟩
theorem kh_T_free : (ky_T_free).cls = "FileTree" ∧ (ky_T_free).cls ≠ "java/lang/invoke/MethodHandle" ∧ (ky_T_free).cls ≠ "java/lang/invoke/VarHandle" ∧ (parseMethodDescriptor (ky_T_free).desc).map (fun d => d.parameters.length) = some 0 := by decide +kernel
abbrev kc_T_forget : ByteArray := prog_1_method_14_code
abbrev ky_T_forget : MethodName := ⟨"FileTree", "forget", "()I"⟩
abbrev kw_T_forget : List Cond := kw ky_T_forget kc_T_forget 3 (some .int)
theorem ko_T_forget : ko "FileTree" ky_T_forget kc_T_forget 3 (some .int) := ⟨q_418, q_419, q_1, q_420⟩
theorem kh_T_forget : (ky_T_forget).cls = "FileTree" ∧ (ky_T_forget).cls ≠ "java/lang/invoke/MethodHandle" ∧ (ky_T_forget).cls ≠ "java/lang/invoke/VarHandle" ∧ (parseMethodDescriptor (ky_T_forget).desc).map (fun d => d.parameters.length) = some 0 := by decide +kernel
abbrev kc_T_fill : ByteArray := prog_1_method_15_code
abbrev ky_T_fill : MethodName := ⟨"FileTree", "fill", "(III)Z"⟩
abbrev kw_T_fill : List Cond := kw ky_T_fill kc_T_fill 5 (some .boolean)
theorem ko_T_fill : ko "FileTree" ky_T_fill kc_T_fill 5 (some .boolean) := ⟨q_422, q_423, q_1, q_424⟩
theorem kh_T_fill : (ky_T_fill).cls = "FileTree" ∧ (ky_T_fill).cls ≠ "java/lang/invoke/MethodHandle" ∧ (ky_T_fill).cls ≠ "java/lang/invoke/VarHandle" ∧ (parseMethodDescriptor (ky_T_fill).desc).map (fun d => d.parameters.length) = some 3 := by decide +kernel
abbrev kc_T_at : ByteArray := prog_1_method_16_code
abbrev ky_T_at : MethodName := ⟨"FileTree", "at", "(I)I"⟩
abbrev kw_T_at : List Cond := kw ky_T_at kc_T_at 2 (some .int)
theorem ko_T_at : ko "FileTree" ky_T_at kc_T_at 2 (some .int) := ⟨q_426, q_427, q_1, q_428⟩
theorem kh_T_at : (ky_T_at).cls = "FileTree" ∧ (ky_T_at).cls ≠ "java/lang/invoke/MethodHandle" ∧ (ky_T_at).cls ≠ "java/lang/invoke/VarHandle" ∧ (parseMethodDescriptor (ky_T_at).desc).map (fun d => d.parameters.length) = some 1 := by decide +kernel
abbrev kc_T_peek : ByteArray := prog_1_method_17_code
abbrev ky_T_peek : MethodName := ⟨"FileTree", "peek", "(II)I"⟩
abbrev kw_T_peek : List Cond := kw ky_T_peek kc_T_peek 3 (some .int)
theorem ko_T_peek : ko "FileTree" ky_T_peek kc_T_peek 3 (some .int) := ⟨q_430, q_431, q_1, q_432⟩
theorem kh_T_peek : (ky_T_peek).cls = "FileTree" ∧ (ky_T_peek).cls ≠ "java/lang/invoke/MethodHandle" ∧ (ky_T_peek).cls ≠ "java/lang/invoke/VarHandle" ∧ (parseMethodDescriptor (ky_T_peek).desc).map (fun d => d.parameters.length) = some 2 := by decide +kernel
abbrev kc_T_lead : ByteArray := prog_1_method_18_code
abbrev ky_T_lead : MethodName := ⟨"FileTree", "lead", "(III)I"⟩
abbrev kw_T_lead : List Cond := kw ky_T_lead kc_T_lead 7 (some .int)
theorem ko_T_lead : ko "FileTree" ky_T_lead kc_T_lead 7 (some .int) := ⟨q_238, qs_6, q_1, q_239⟩
theorem kh_T_lead : (ky_T_lead).cls = "FileTree" ∧ (ky_T_lead).cls ≠ "java/lang/invoke/MethodHandle" ∧ (ky_T_lead).cls ≠ "java/lang/invoke/VarHandle" ∧ (parseMethodDescriptor (ky_T_lead).desc).map (fun d => d.parameters.length) = some 3 := by decide +kernel
abbrev kc_M_init : ByteArray := prog_7_method_1_code
abbrev ky_M_init : MethodName := ⟨"FileTreeModel", "<init>", "()V"⟩
abbrev kw_M_init : List Cond := kw ky_M_init kc_M_init 2 none
abbrev kc_M_left : ByteArray := prog_7_method_3_code
abbrev ky_M_left : MethodName := ⟨"FileTreeModel", "left", "()I"⟩
abbrev kw_M_left : List Cond := kw ky_M_left kc_M_left 3 (some .int)
theorem ko_M_left : ko "FileTreeModel" ky_M_left kc_M_left 3 (some .int) := ⟨q_596, qs_28, q_7, q_597⟩
theorem kh_M_left : (ky_M_left).cls = "FileTreeModel" ∧ (ky_M_left).cls ≠ "java/lang/invoke/MethodHandle" ∧ (ky_M_left).cls ≠ "java/lang/invoke/VarHandle" ∧ (parseMethodDescriptor (ky_M_left).desc).map (fun d => d.parameters.length) = some 0 := by decide +kernel
abbrev kc_M_take : ByteArray := prog_7_method_4_code
abbrev ky_M_take : MethodName := ⟨"FileTreeModel", "take", "()I"⟩
abbrev kw_M_take : List Cond := kw ky_M_take kc_M_take 3 (some .int)
theorem ko_M_take : ko "FileTreeModel" ky_M_take kc_M_take 3 (some .int) := ⟨q_451, qs_10, q_7, q_452⟩
theorem kh_M_take : (ky_M_take).cls = "FileTreeModel" ∧ (ky_M_take).cls ≠ "java/lang/invoke/MethodHandle" ∧ (ky_M_take).cls ≠ "java/lang/invoke/VarHandle" ∧ (parseMethodDescriptor (ky_M_take).desc).map (fun d => d.parameters.length) = some 0 := by decide +kernel
abbrev kc_M_putNumber : ByteArray := prog_7_method_5_code
abbrev ky_M_putNumber : MethodName := ⟨"FileTreeModel", "putNumber", "(III)V"⟩
abbrev kw_M_putNumber : List Cond := kw ky_M_putNumber kc_M_putNumber 5 none
theorem ko_M_putNumber : ko "FileTreeModel" ky_M_putNumber kc_M_putNumber 5 none := ⟨q_455, qs_11, q_7, q_456⟩
theorem kh_M_putNumber : (ky_M_putNumber).cls = "FileTreeModel" ∧ (ky_M_putNumber).cls ≠ "java/lang/invoke/MethodHandle" ∧ (ky_M_putNumber).cls ≠ "java/lang/invoke/VarHandle" ∧ (parseMethodDescriptor (ky_M_putNumber).desc).map (fun d => d.parameters.length) = some 3 := by decide +kernel
abbrev kc_M_next : ByteArray := prog_7_method_6_code
abbrev ky_M_next : MethodName := ⟨"FileTreeModel", "next", "(I)I"⟩
abbrev kw_M_next : List Cond := kw ky_M_next kc_M_next 2 (some .int)
theorem ko_M_next : ko "FileTreeModel" ky_M_next kc_M_next 2 (some .int) := ⟨q_592, qs_27, q_7, q_593⟩
theorem kh_M_next : (ky_M_next).cls = "FileTreeModel" ∧ (ky_M_next).cls ≠ "java/lang/invoke/MethodHandle" ∧ (ky_M_next).cls ≠ "java/lang/invoke/VarHandle" ∧ (parseMethodDescriptor (ky_M_next).desc).map (fun d => d.parameters.length) = some 1 := by decide +kernel
abbrev kc_M_grow : ByteArray := prog_7_method_7_code
abbrev ky_M_grow : MethodName := ⟨"FileTreeModel", "grow", "(I)V"⟩
abbrev kw_M_grow : List Cond := kw ky_M_grow kc_M_grow 3 none
theorem ko_M_grow : ko "FileTreeModel" ky_M_grow kc_M_grow 3 none := ⟨q_447, qs_9, q_7, q_448⟩
theorem kh_M_grow : (ky_M_grow).cls = "FileTreeModel" ∧ (ky_M_grow).cls ≠ "java/lang/invoke/MethodHandle" ∧ (ky_M_grow).cls ≠ "java/lang/invoke/VarHandle" ∧ (parseMethodDescriptor (ky_M_grow).desc).map (fun d => d.parameters.length) = some 1 := by decide +kernel
abbrev kc_M_empty : ByteArray := prog_7_method_8_code
abbrev ky_M_empty : MethodName := ⟨"FileTreeModel", "empty", "(I)V"⟩
abbrev kw_M_empty : List Cond := kw ky_M_empty kc_M_empty 3 none
theorem ko_M_empty : ko "FileTreeModel" ky_M_empty kc_M_empty 3 none := ⟨q_633, qs_35, q_7, q_634⟩
theorem kh_M_empty : (ky_M_empty).cls = "FileTreeModel" ∧ (ky_M_empty).cls ≠ "java/lang/invoke/MethodHandle" ∧ (ky_M_empty).cls ≠ "java/lang/invoke/VarHandle" ∧ (parseMethodDescriptor (ky_M_empty).desc).map (fun d => d.parameters.length) = some 1 := by decide +kernel
abbrev kc_M_ends : ByteArray := prog_7_method_9_code
abbrev ky_M_ends : MethodName := ⟨"FileTreeModel", "ends", "(I)Z"⟩
abbrev kw_M_ends : List Cond := kw ky_M_ends kc_M_ends 2 (some .boolean)
theorem ko_M_ends : ko "FileTreeModel" ky_M_ends kc_M_ends 2 (some .boolean) := ⟨q_629, qs_34, q_7, q_630⟩
theorem kh_M_ends : (ky_M_ends).cls = "FileTreeModel" ∧ (ky_M_ends).cls ≠ "java/lang/invoke/MethodHandle" ∧ (ky_M_ends).cls ≠ "java/lang/invoke/VarHandle" ∧ (parseMethodDescriptor (ky_M_ends).desc).map (fun d => d.parameters.length) = some 1 := by decide +kernel
abbrev kc_M_place : ByteArray := prog_7_method_10_code
abbrev ky_M_place : MethodName := ⟨"FileTreeModel", "place", "(II)I"⟩
abbrev kw_M_place : List Cond := kw ky_M_place kc_M_place 3 (some .int)
theorem ko_M_place : ko "FileTreeModel" ky_M_place kc_M_place 3 (some .int) := ⟨q_467, qs_14, q_7, q_468⟩
theorem kh_M_place : (ky_M_place).cls = "FileTreeModel" ∧ (ky_M_place).cls ≠ "java/lang/invoke/MethodHandle" ∧ (ky_M_place).cls ≠ "java/lang/invoke/VarHandle" ∧ (parseMethodDescriptor (ky_M_place).desc).map (fun d => d.parameters.length) = some 2 := by decide +kernel
abbrev kc_M_isInode : ByteArray := prog_7_method_11_code
abbrev ky_M_isInode : MethodName := ⟨"FileTreeModel", "isInode", "(I)Z"⟩
abbrev kw_M_isInode : List Cond := kw ky_M_isInode kc_M_isInode 1 (some .boolean)
theorem ko_M_isInode : kos ky_M_isInode kc_M_isInode 1 (some .boolean) := ⟨q_551, q_7, q_552⟩
theorem kh_M_isInode : (ky_M_isInode).cls ≠ "java/lang/invoke/MethodHandle" ∧ (ky_M_isInode).cls ≠ "java/lang/invoke/VarHandle" ∧ (parseMethodDescriptor (ky_M_isInode).desc).map (fun d => d.parameters.length) = some 1 := by decide +kernel
abbrev kc_M_there : ByteArray := prog_7_method_12_code
abbrev ky_M_there : MethodName := ⟨"FileTreeModel", "there", "(I)Z"⟩
abbrev kw_M_there : List Cond := kw ky_M_there kc_M_there 2 (some .boolean)
theorem ko_M_there : ko "FileTreeModel" ky_M_there kc_M_there 2 (some .boolean) := ⟨q_548, qs_18, q_7, q_549⟩
theorem kh_M_there : (ky_M_there).cls = "FileTreeModel" ∧ (ky_M_there).cls ≠ "java/lang/invoke/MethodHandle" ∧ (ky_M_there).cls ≠ "java/lang/invoke/VarHandle" ∧ (parseMethodDescriptor (ky_M_there).desc).map (fun d => d.parameters.length) = some 1 := by decide +kernel
abbrev kc_M_numberAt : ByteArray := prog_7_method_13_code
abbrev ky_M_numberAt : MethodName := ⟨"FileTreeModel", "numberAt", "(II)I"⟩
abbrev kw_M_numberAt : List Cond := kw ky_M_numberAt kc_M_numberAt 4 (some .int)
theorem ko_M_numberAt : ko "FileTreeModel" ky_M_numberAt kc_M_numberAt 4 (some .int) := ⟨q_571, qs_23, q_7, q_572⟩
theorem kh_M_numberAt : (ky_M_numberAt).cls = "FileTreeModel" ∧ (ky_M_numberAt).cls ≠ "java/lang/invoke/MethodHandle" ∧ (ky_M_numberAt).cls ≠ "java/lang/invoke/VarHandle" ∧ (parseMethodDescriptor (ky_M_numberAt).desc).map (fun d => d.parameters.length) = some 2 := by decide +kernel
abbrev kc_M_entry : ByteArray := prog_7_method_14_code
abbrev ky_M_entry : MethodName := ⟨"FileTreeModel", "entry", "(I)I"⟩
abbrev kw_M_entry : List Cond := kw ky_M_entry kc_M_entry 6 (some .int)
theorem ko_M_entry : ko "FileTreeModel" ky_M_entry kc_M_entry 6 (some .int) := ⟨q_567, qs_22, q_7, q_568⟩
theorem kh_M_entry : (ky_M_entry).cls = "FileTreeModel" ∧ (ky_M_entry).cls ≠ "java/lang/invoke/MethodHandle" ∧ (ky_M_entry).cls ≠ "java/lang/invoke/VarHandle" ∧ (parseMethodDescriptor (ky_M_entry).desc).map (fun d => d.parameters.length) = some 1 := by decide +kernel
abbrev kc_M_vacant : ByteArray := prog_7_method_15_code
abbrev ky_M_vacant : MethodName := ⟨"FileTreeModel", "vacant", "(I)I"⟩
abbrev kw_M_vacant : List Cond := kw ky_M_vacant kc_M_vacant 3 (some .int)
theorem ko_M_vacant : ko "FileTreeModel" ky_M_vacant kc_M_vacant 3 (some .int) := ⟨q_587, qs_26, q_7, q_588⟩
theorem kh_M_vacant : (ky_M_vacant).cls = "FileTreeModel" ∧ (ky_M_vacant).cls ≠ "java/lang/invoke/MethodHandle" ∧ (ky_M_vacant).cls ≠ "java/lang/invoke/VarHandle" ∧ (parseMethodDescriptor (ky_M_vacant).desc).map (fun d => d.parameters.length) = some 1 := by decide +kernel
abbrev kc_M_wants : ByteArray := prog_7_method_16_code
abbrev ky_M_wants : MethodName := ⟨"FileTreeModel", "wants", "(I)I"⟩
abbrev kw_M_wants : List Cond := kw ky_M_wants kc_M_wants 3 (some .int)
theorem ko_M_wants : ko "FileTreeModel" ky_M_wants kc_M_wants 3 (some .int) := ⟨q_583, qs_25, q_7, q_584⟩
theorem kh_M_wants : (ky_M_wants).cls = "FileTreeModel" ∧ (ky_M_wants).cls ≠ "java/lang/invoke/MethodHandle" ∧ (ky_M_wants).cls ≠ "java/lang/invoke/VarHandle" ∧ (parseMethodDescriptor (ky_M_wants).desc).map (fun d => d.parameters.length) = some 1 := by decide +kernel
abbrev kc_M_lay : ByteArray := prog_7_method_17_code
abbrev ky_M_lay : MethodName := ⟨"FileTreeModel", "lay", "(III)V"⟩
abbrev kw_M_lay : List Cond := kw ky_M_lay kc_M_lay 6 none
theorem ko_M_lay : ko "FileTreeModel" ky_M_lay kc_M_lay 6 none := ⟨q_463, qs_13, q_7, q_464⟩
theorem kh_M_lay : (ky_M_lay).cls = "FileTreeModel" ∧ (ky_M_lay).cls ≠ "java/lang/invoke/MethodHandle" ∧ (ky_M_lay).cls ≠ "java/lang/invoke/VarHandle" ∧ (parseMethodDescriptor (ky_M_lay).desc).map (fun d => d.parameters.length) = some 3 := by decide +kernel
abbrev kc_M_enter : ByteArray := prog_7_method_18_code
abbrev ky_M_enter : MethodName := ⟨"FileTreeModel", "enter", "(II)V"⟩
abbrev kw_M_enter : List Cond := kw ky_M_enter kc_M_enter 4 none
theorem ko_M_enter : ko "FileTreeModel" ky_M_enter kc_M_enter 4 none := ⟨q_605, qs_30, q_7, q_606⟩
theorem kh_M_enter : (ky_M_enter).cls = "FileTreeModel" ∧ (ky_M_enter).cls ≠ "java/lang/invoke/MethodHandle" ∧ (ky_M_enter).cls ≠ "java/lang/invoke/VarHandle" ∧ (parseMethodDescriptor (ky_M_enter).desc).map (fun d => d.parameters.length) = some 2 := by decide +kernel
abbrev kc_M_erase : ByteArray := prog_7_method_19_code
abbrev ky_M_erase : MethodName := ⟨"FileTreeModel", "erase", "(II)V"⟩
abbrev kw_M_erase : List Cond := kw ky_M_erase kc_M_erase 5 none
theorem ko_M_erase : ko "FileTreeModel" ky_M_erase kc_M_erase 5 none := ⟨q_625, qs_33, q_7, q_626⟩
theorem kh_M_erase : (ky_M_erase).cls = "FileTreeModel" ∧ (ky_M_erase).cls ≠ "java/lang/invoke/MethodHandle" ∧ (ky_M_erase).cls ≠ "java/lang/invoke/VarHandle" ∧ (parseMethodDescriptor (ky_M_erase).desc).map (fun d => d.parameters.length) = some 2 := by decide +kernel
abbrev kc_M_dots : ByteArray := prog_7_method_20_code
abbrev ky_M_dots : MethodName := ⟨"FileTreeModel", "dots", "(I)V"⟩
abbrev kw_M_dots : List Cond := kw ky_M_dots kc_M_dots 3 none
theorem ko_M_dots : ko "FileTreeModel" ky_M_dots kc_M_dots 3 none := ⟨q_459, qs_12, q_7, q_460⟩
theorem kh_M_dots : (ky_M_dots).cls = "FileTreeModel" ∧ (ky_M_dots).cls ≠ "java/lang/invoke/MethodHandle" ∧ (ky_M_dots).cls ≠ "java/lang/invoke/VarHandle" ∧ (parseMethodDescriptor (ky_M_dots).desc).map (fun d => d.parameters.length) = some 1 := by decide +kernel
abbrev kc_M_begins : ByteArray := prog_7_method_21_code
abbrev ky_M_begins : MethodName := ⟨"FileTreeModel", "begins", "(II)V"⟩
abbrev kw_M_begins : List Cond := kw ky_M_begins kc_M_begins 3 none
theorem ko_M_begins : ko "FileTreeModel" ky_M_begins kc_M_begins 3 none := ⟨q_443, qs_8, q_7, q_444⟩
theorem kh_M_begins : (ky_M_begins).cls = "FileTreeModel" ∧ (ky_M_begins).cls ≠ "java/lang/invoke/MethodHandle" ∧ (ky_M_begins).cls ≠ "java/lang/invoke/VarHandle" ∧ (parseMethodDescriptor (ky_M_begins).desc).map (fun d => d.parameters.length) = some 2 := by decide +kernel
abbrev kc_M_isDots : ByteArray := prog_7_method_22_code
abbrev ky_M_isDots : MethodName := ⟨"FileTreeModel", "isDots", "()Z"⟩
abbrev kw_M_isDots : List Cond := kw ky_M_isDots kc_M_isDots 1 (some .boolean)
theorem ko_M_isDots : ko "FileTreeModel" ky_M_isDots kc_M_isDots 1 (some .boolean) := ⟨q_617, qs_31, q_7, q_618⟩
theorem kh_M_isDots : (ky_M_isDots).cls = "FileTreeModel" ∧ (ky_M_isDots).cls ≠ "java/lang/invoke/MethodHandle" ∧ (ky_M_isDots).cls ≠ "java/lang/invoke/VarHandle" ∧ (parseMethodDescriptor (ky_M_isDots).desc).map (fun d => d.parameters.length) = some 0 := by decide +kernel
abbrev kc_M_slashes : ByteArray := prog_7_method_23_code
abbrev ky_M_slashes : MethodName := ⟨"FileTreeModel", "slashes", "()V"⟩
abbrev kw_M_slashes : List Cond := kw ky_M_slashes kc_M_slashes 1 none
theorem ko_M_slashes : ko "FileTreeModel" ky_M_slashes kc_M_slashes 1 none := ⟨q_559, qs_20, q_7, q_560⟩
theorem kh_M_slashes : (ky_M_slashes).cls = "FileTreeModel" ∧ (ky_M_slashes).cls ≠ "java/lang/invoke/MethodHandle" ∧ (ky_M_slashes).cls ≠ "java/lang/invoke/VarHandle" ∧ (parseMethodDescriptor (ky_M_slashes).desc).map (fun d => d.parameters.length) = some 0 := by decide +kernel
abbrev kc_M_named : ByteArray := prog_7_method_24_code
abbrev ky_M_named : MethodName := ⟨"FileTreeModel", "named", "()Z"⟩
abbrev kw_M_named : List Cond := kw ky_M_named kc_M_named 3 (some .boolean)
theorem ko_M_named : ko "FileTreeModel" ky_M_named kc_M_named 3 (some .boolean) := ⟨q_555, qs_19, q_7, q_556⟩
theorem kh_M_named : (ky_M_named).cls = "FileTreeModel" ∧ (ky_M_named).cls ≠ "java/lang/invoke/MethodHandle" ∧ (ky_M_named).cls ≠ "java/lang/invoke/VarHandle" ∧ (parseMethodDescriptor (ky_M_named).desc).map (fun d => d.parameters.length) = some 0 := by decide +kernel
abbrev kc_M_begin : ByteArray := prog_7_method_25_code
abbrev ky_M_begin : MethodName := ⟨"FileTreeModel", "begin", "(III)I"⟩
abbrev kw_M_begin : List Cond := kw ky_M_begin kc_M_begin 6 (some .int)
theorem ko_M_begin : ko "FileTreeModel" ky_M_begin kc_M_begin 6 (some .int) := ⟨q_544, qs_17, q_7, q_545⟩
theorem kh_M_begin : (ky_M_begin).cls = "FileTreeModel" ∧ (ky_M_begin).cls ≠ "java/lang/invoke/MethodHandle" ∧ (ky_M_begin).cls ≠ "java/lang/invoke/VarHandle" ∧ (parseMethodDescriptor (ky_M_begin).desc).map (fun d => d.parameters.length) = some 3 := by decide +kernel
abbrev kc_M_step : ByteArray := prog_7_method_26_code
abbrev ky_M_step : MethodName := ⟨"FileTreeModel", "step", "(I)I"⟩
abbrev kw_M_step : List Cond := kw ky_M_step kc_M_step 3 (some .int)
theorem ko_M_step : ko "FileTreeModel" ky_M_step kc_M_step 3 (some .int) := ⟨q_563, qs_21, q_7, q_564⟩
theorem kh_M_step : (ky_M_step).cls = "FileTreeModel" ∧ (ky_M_step).cls ≠ "java/lang/invoke/MethodHandle" ∧ (ky_M_step).cls ≠ "java/lang/invoke/VarHandle" ∧ (parseMethodDescriptor (ky_M_step).desc).map (fun d => d.parameters.length) = some 1 := by decide +kernel
abbrev kc_M_leads : ByteArray := prog_7_method_27_code
abbrev ky_M_leads : MethodName := ⟨"FileTreeModel", "leads", "(III)I"⟩
abbrev kw_M_leads : List Cond := kw ky_M_leads kc_M_leads 5 (some .int)
theorem ko_M_leads : ko "FileTreeModel" ky_M_leads kc_M_leads 5 (some .int) := ⟨q_540, qs_16, q_7, q_541⟩
theorem kh_M_leads : (ky_M_leads).cls = "FileTreeModel" ∧ (ky_M_leads).cls ≠ "java/lang/invoke/MethodHandle" ∧ (ky_M_leads).cls ≠ "java/lang/invoke/VarHandle" ∧ (parseMethodDescriptor (ky_M_leads).desc).map (fun d => d.parameters.length) = some 3 := by decide +kernel
abbrev kc_M_before : ByteArray := prog_7_method_28_code
abbrev ky_M_before : MethodName := ⟨"FileTreeModel", "before", "(III)I"⟩
abbrev kw_M_before : List Cond := kw ky_M_before kc_M_before 7 (some .int)
theorem ko_M_before : ko "FileTreeModel" ky_M_before kc_M_before 7 (some .int) := ⟨q_579, qs_24, q_7, q_580⟩
theorem kh_M_before : (ky_M_before).cls = "FileTreeModel" ∧ (ky_M_before).cls ≠ "java/lang/invoke/MethodHandle" ∧ (ky_M_before).cls ≠ "java/lang/invoke/VarHandle" ∧ (parseMethodDescriptor (ky_M_before).desc).map (fun d => d.parameters.length) = some 3 := by decide +kernel
abbrev kc_M_write : ByteArray := prog_7_method_29_code
abbrev ky_M_write : MethodName := ⟨"FileTreeModel", "write", "(J)Z"⟩
abbrev kw_M_write : List Cond := kw ky_M_write kc_M_write 6 (some .boolean)
theorem ko_M_write : ko "FileTreeModel" ky_M_write kc_M_write 6 (some .boolean) := ⟨q_526, q_527, q_7, q_528⟩
theorem kh_M_write : (ky_M_write).cls = "FileTreeModel" ∧ (ky_M_write).cls ≠ "java/lang/invoke/MethodHandle" ∧ (ky_M_write).cls ≠ "java/lang/invoke/VarHandle" ∧ (parseMethodDescriptor (ky_M_write).desc).map (fun d => d.parameters.length) = some 1 := by decide +kernel
abbrev kc_M_taken : ByteArray := prog_7_method_30_code
abbrev ky_M_taken : MethodName := ⟨"FileTreeModel", "taken", "()I"⟩
abbrev kw_M_taken : List Cond := kw ky_M_taken kc_M_taken 2 (some .int)
theorem ko_M_taken : ko "FileTreeModel" ky_M_taken kc_M_taken 2 (some .int) := ⟨q_536, qs_15, q_7, q_537⟩
theorem kh_M_taken : (ky_M_taken).cls = "FileTreeModel" ∧ (ky_M_taken).cls ≠ "java/lang/invoke/MethodHandle" ∧ (ky_M_taken).cls ≠ "java/lang/invoke/VarHandle" ∧ (parseMethodDescriptor (ky_M_taken).desc).map (fun d => d.parameters.length) = some 0 := by decide +kernel
abbrev kc_M_find : ByteArray := prog_7_method_31_code
abbrev ky_M_find : MethodName := ⟨"FileTreeModel", "find", "(I)I"⟩
abbrev kw_M_find : List Cond := kw ky_M_find kc_M_find 3 (some .int)
theorem ko_M_find : ko "FileTreeModel" ky_M_find kc_M_find 3 (some .int) := ⟨q_531, q_532, q_7, q_533⟩
theorem kh_M_find : (ky_M_find).cls = "FileTreeModel" ∧ (ky_M_find).cls ≠ "java/lang/invoke/MethodHandle" ∧ (ky_M_find).cls ≠ "java/lang/invoke/VarHandle" ∧ (parseMethodDescriptor (ky_M_find).desc).map (fun d => d.parameters.length) = some 1 := by decide +kernel
abbrev kc_M_create : ByteArray := prog_7_method_32_code
abbrev ky_M_create : MethodName := ⟨"FileTreeModel", "create", "(IIII)I"⟩
abbrev kw_M_create : List Cond := kw ky_M_create kc_M_create 8 (some .int)
theorem ko_M_create : ko "FileTreeModel" ky_M_create kc_M_create 8 (some .int) := ⟨q_574, q_575, q_7, q_576⟩
theorem kh_M_create : (ky_M_create).cls = "FileTreeModel" ∧ (ky_M_create).cls ≠ "java/lang/invoke/MethodHandle" ∧ (ky_M_create).cls ≠ "java/lang/invoke/VarHandle" ∧ (parseMethodDescriptor (ky_M_create).desc).map (fun d => d.parameters.length) = some 4 := by decide +kernel
abbrev kc_M_again : ByteArray := prog_7_method_33_code
abbrev ky_M_again : MethodName := ⟨"FileTreeModel", "again", "()V"⟩
abbrev kw_M_again : List Cond := kw ky_M_again kc_M_again 3 none
theorem ko_M_again : ko "FileTreeModel" ky_M_again kc_M_again 3 none := ⟨q_601, qs_29, q_7, q_602⟩
theorem kh_M_again : (ky_M_again).cls = "FileTreeModel" ∧ (ky_M_again).cls ≠ "java/lang/invoke/MethodHandle" ∧ (ky_M_again).cls ≠ "java/lang/invoke/VarHandle" ∧ (parseMethodDescriptor (ky_M_again).desc).map (fun d => d.parameters.length) = some 0 := by decide +kernel
abbrev kc_M_link : ByteArray := prog_7_method_34_code
abbrev ky_M_link : MethodName := ⟨"FileTreeModel", "link", "(I)I"⟩
abbrev kw_M_link : List Cond := kw ky_M_link kc_M_link 6 (some .int)
theorem ko_M_link : ko "FileTreeModel" ky_M_link kc_M_link 6 (some .int) := ⟨q_608, q_609, q_7, q_610⟩
theorem kh_M_link : (ky_M_link).cls = "FileTreeModel" ∧ (ky_M_link).cls ≠ "java/lang/invoke/MethodHandle" ∧ (ky_M_link).cls ≠ "java/lang/invoke/VarHandle" ∧ (parseMethodDescriptor (ky_M_link).desc).map (fun d => d.parameters.length) = some 1 := by decide +kernel
abbrev kc_M_isBare : ByteArray := prog_7_method_35_code
abbrev ky_M_isBare : MethodName := ⟨"FileTreeModel", "isBare", "(I)Z"⟩
abbrev kw_M_isBare : List Cond := kw ky_M_isBare kc_M_isBare 4 (some .boolean)
theorem ko_M_isBare : ko "FileTreeModel" ky_M_isBare kc_M_isBare 4 (some .boolean) := ⟨q_621, qs_32, q_7, q_622⟩
theorem kh_M_isBare : (ky_M_isBare).cls = "FileTreeModel" ∧ (ky_M_isBare).cls ≠ "java/lang/invoke/MethodHandle" ∧ (ky_M_isBare).cls ≠ "java/lang/invoke/VarHandle" ∧ (parseMethodDescriptor (ky_M_isBare).desc).map (fun d => d.parameters.length) = some 1 := by decide +kernel
abbrev kc_M_unlink : ByteArray := prog_7_method_36_code
abbrev ky_M_unlink : MethodName := ⟨"FileTreeModel", "unlink", "(I)I"⟩
abbrev kw_M_unlink : List Cond := kw ky_M_unlink kc_M_unlink 6 (some .int)
theorem ko_M_unlink : ko "FileTreeModel" ky_M_unlink kc_M_unlink 6 (some .int) := ⟨q_612, q_613, q_7, q_614⟩
theorem kh_M_unlink : (ky_M_unlink).cls = "FileTreeModel" ∧ (ky_M_unlink).cls ≠ "java/lang/invoke/MethodHandle" ∧ (ky_M_unlink).cls ≠ "java/lang/invoke/VarHandle" ∧ (parseMethodDescriptor (ky_M_unlink).desc).map (fun d => d.parameters.length) = some 1 := by decide +kernel
abbrev kc_M_hold : ByteArray := prog_7_method_37_code
abbrev ky_M_hold : MethodName := ⟨"FileTreeModel", "hold", "(I)Z"⟩
abbrev kw_M_hold : List Cond := kw ky_M_hold kc_M_hold 2 (some .boolean)
theorem ko_M_hold : ko "FileTreeModel" ky_M_hold kc_M_hold 2 (some .boolean) := ⟨q_636, q_637, q_7, q_638⟩
theorem kh_M_hold : (ky_M_hold).cls = "FileTreeModel" ∧ (ky_M_hold).cls ≠ "java/lang/invoke/MethodHandle" ∧ (ky_M_hold).cls ≠ "java/lang/invoke/VarHandle" ∧ (parseMethodDescriptor (ky_M_hold).desc).map (fun d => d.parameters.length) = some 1 := by decide +kernel
abbrev kc_M_leave : ByteArray := prog_7_method_38_code
abbrev ky_M_leave : MethodName := ⟨"FileTreeModel", "leave", "(I)Z"⟩
abbrev kw_M_leave : List Cond := kw ky_M_leave kc_M_leave 3 (some .boolean)
theorem ko_M_leave : ko "FileTreeModel" ky_M_leave kc_M_leave 3 (some .boolean) := ⟨q_640, q_641, q_7, q_642⟩
theorem kh_M_leave : (ky_M_leave).cls = "FileTreeModel" ∧ (ky_M_leave).cls ≠ "java/lang/invoke/MethodHandle" ∧ (ky_M_leave).cls ≠ "java/lang/invoke/VarHandle" ∧ (parseMethodDescriptor (ky_M_leave).desc).map (fun d => d.parameters.length) = some 1 := by decide +kernel
abbrev kc_M_read : ByteArray := prog_7_method_39_code
abbrev ky_M_read : MethodName := ⟨"FileTreeModel", "read", "(III)I"⟩
abbrev kw_M_read : List Cond := kw ky_M_read kc_M_read 5 (some .int)
theorem ko_M_read : ko "FileTreeModel" ky_M_read kc_M_read 5 (some .int) := ⟨q_644, q_645, q_7, q_646⟩
theorem kh_M_read : (ky_M_read).cls = "FileTreeModel" ∧ (ky_M_read).cls ≠ "java/lang/invoke/MethodHandle" ∧ (ky_M_read).cls ≠ "java/lang/invoke/VarHandle" ∧ (parseMethodDescriptor (ky_M_read).desc).map (fun d => d.parameters.length) = some 3 := by decide +kernel
abbrev kc_M_save : ByteArray := prog_7_method_40_code
abbrev ky_M_save : MethodName := ⟨"FileTreeModel", "save", "(III)I"⟩
abbrev kw_M_save : List Cond := kw ky_M_save kc_M_save 6 (some .int)
theorem ko_M_save : ko "FileTreeModel" ky_M_save kc_M_save 6 (some .int) := ⟨q_648, q_649, q_7, q_650⟩
theorem kh_M_save : (ky_M_save).cls = "FileTreeModel" ∧ (ky_M_save).cls ≠ "java/lang/invoke/MethodHandle" ∧ (ky_M_save).cls ≠ "java/lang/invoke/VarHandle" ∧ (parseMethodDescriptor (ky_M_save).desc).map (fun d => d.parameters.length) = some 3 := by decide +kernel
abbrev kc_M_clear : ByteArray := prog_7_method_41_code
abbrev ky_M_clear : MethodName := ⟨"FileTreeModel", "clear", "(I)Z"⟩
abbrev kw_M_clear : List Cond := kw ky_M_clear kc_M_clear 2 (some .boolean)
theorem ko_M_clear : ko "FileTreeModel" ky_M_clear kc_M_clear 2 (some .boolean) := ⟨q_652, q_653, q_7, q_654⟩
theorem kh_M_clear : (ky_M_clear).cls = "FileTreeModel" ∧ (ky_M_clear).cls ≠ "java/lang/invoke/MethodHandle" ∧ (ky_M_clear).cls ≠ "java/lang/invoke/VarHandle" ∧ (parseMethodDescriptor (ky_M_clear).desc).map (fun d => d.parameters.length) = some 1 := by decide +kernel
abbrev kc_M_about : ByteArray := prog_7_method_42_code
abbrev ky_M_about : MethodName := ⟨"FileTreeModel", "about", "(II)I"⟩
abbrev kw_M_about : List Cond := kw ky_M_about kc_M_about 3 (some .int)
theorem ko_M_about : ko "FileTreeModel" ky_M_about kc_M_about 3 (some .int) := ⟨q_656, q_657, q_7, q_658⟩
theorem kh_M_about : (ky_M_about).cls = "FileTreeModel" ∧ (ky_M_about).cls ≠ "java/lang/invoke/MethodHandle" ∧ (ky_M_about).cls ≠ "java/lang/invoke/VarHandle" ∧ (parseMethodDescriptor (ky_M_about).desc).map (fun d => d.parameters.length) = some 2 := by decide +kernel
abbrev kc_M_free : ByteArray := prog_7_method_43_code
abbrev ky_M_free : MethodName := ⟨"FileTreeModel", "free", "()I"⟩
abbrev kw_M_free : List Cond := kw ky_M_free kc_M_free 1 (some .int)
theorem ko_M_free : ko "FileTreeModel" ky_M_free kc_M_free 1 (some .int) := ⟨q_660, q_661, q_7, q_662⟩
theorem kh_M_free : (ky_M_free).cls = "FileTreeModel" ∧ (ky_M_free).cls ≠ "java/lang/invoke/MethodHandle" ∧ (ky_M_free).cls ≠ "java/lang/invoke/VarHandle" ∧ (parseMethodDescriptor (ky_M_free).desc).map (fun d => d.parameters.length) = some 0 := by decide +kernel
abbrev kc_M_forget : ByteArray := prog_7_method_44_code
abbrev ky_M_forget : MethodName := ⟨"FileTreeModel", "forget", "()I"⟩
abbrev kw_M_forget : List Cond := kw ky_M_forget kc_M_forget 3 (some .int)
theorem ko_M_forget : ko "FileTreeModel" ky_M_forget kc_M_forget 3 (some .int) := ⟨q_664, q_665, q_7, q_666⟩
theorem kh_M_forget : (ky_M_forget).cls = "FileTreeModel" ∧ (ky_M_forget).cls ≠ "java/lang/invoke/MethodHandle" ∧ (ky_M_forget).cls ≠ "java/lang/invoke/VarHandle" ∧ (parseMethodDescriptor (ky_M_forget).desc).map (fun d => d.parameters.length) = some 0 := by decide +kernel
abbrev kc_M_fill : ByteArray := prog_7_method_45_code
abbrev ky_M_fill : MethodName := ⟨"FileTreeModel", "fill", "(III)Z"⟩
abbrev kw_M_fill : List Cond := kw ky_M_fill kc_M_fill 5 (some .boolean)
theorem ko_M_fill : ko "FileTreeModel" ky_M_fill kc_M_fill 5 (some .boolean) := ⟨q_668, q_669, q_7, q_670⟩
theorem kh_M_fill : (ky_M_fill).cls = "FileTreeModel" ∧ (ky_M_fill).cls ≠ "java/lang/invoke/MethodHandle" ∧ (ky_M_fill).cls ≠ "java/lang/invoke/VarHandle" ∧ (parseMethodDescriptor (ky_M_fill).desc).map (fun d => d.parameters.length) = some 3 := by decide +kernel
abbrev kc_M_at : ByteArray := prog_7_method_46_code
abbrev ky_M_at : MethodName := ⟨"FileTreeModel", "at", "(I)I"⟩
abbrev kw_M_at : List Cond := kw ky_M_at kc_M_at 2 (some .int)
theorem ko_M_at : ko "FileTreeModel" ky_M_at kc_M_at 2 (some .int) := ⟨q_672, q_673, q_7, q_674⟩
theorem kh_M_at : (ky_M_at).cls = "FileTreeModel" ∧ (ky_M_at).cls ≠ "java/lang/invoke/MethodHandle" ∧ (ky_M_at).cls ≠ "java/lang/invoke/VarHandle" ∧ (parseMethodDescriptor (ky_M_at).desc).map (fun d => d.parameters.length) = some 1 := by decide +kernel
abbrev kc_M_of : ByteArray := prog_7_method_47_code
abbrev ky_M_of : MethodName := ⟨"FileTreeModel", "of", "(II)I"⟩
abbrev kw_M_of : List Cond := kw ky_M_of kc_M_of 2 (some .int)
theorem ko_M_of : kos ky_M_of kc_M_of 2 (some .int) := ⟨q_684, q_7, q_685⟩
theorem kh_M_of : (ky_M_of).cls ≠ "java/lang/invoke/MethodHandle" ∧ (ky_M_of).cls ≠ "java/lang/invoke/VarHandle" ∧ (parseMethodDescriptor (ky_M_of).desc).map (fun d => d.parameters.length) = some 2 := by decide +kernel
abbrev kc_M_superByte : ByteArray := prog_7_method_48_code
abbrev ky_M_superByte : MethodName := ⟨"FileTreeModel", "superByte", "(I)I"⟩
abbrev kw_M_superByte : List Cond := kw ky_M_superByte kc_M_superByte 2 (some .int)
theorem ko_M_superByte : ko "FileTreeModel" ky_M_superByte kc_M_superByte 2 (some .int) := ⟨q_681, qs_36, q_7, q_682⟩
theorem kh_M_superByte : (ky_M_superByte).cls = "FileTreeModel" ∧ (ky_M_superByte).cls ≠ "java/lang/invoke/MethodHandle" ∧ (ky_M_superByte).cls ≠ "java/lang/invoke/VarHandle" ∧ (parseMethodDescriptor (ky_M_superByte).desc).map (fun d => d.parameters.length) = some 1 := by decide +kernel
abbrev kc_M_inodeByte : ByteArray := prog_7_method_49_code
abbrev ky_M_inodeByte : MethodName := ⟨"FileTreeModel", "inodeByte", "(II)I"⟩
abbrev kw_M_inodeByte : List Cond := kw ky_M_inodeByte kc_M_inodeByte 4 (some .int)
theorem ko_M_inodeByte : ko "FileTreeModel" ky_M_inodeByte kc_M_inodeByte 4 (some .int) := ⟨q_692, qs_38, q_7, q_693⟩
theorem kh_M_inodeByte : (ky_M_inodeByte).cls = "FileTreeModel" ∧ (ky_M_inodeByte).cls ≠ "java/lang/invoke/MethodHandle" ∧ (ky_M_inodeByte).cls ≠ "java/lang/invoke/VarHandle" ∧ (parseMethodDescriptor (ky_M_inodeByte).desc).map (fun d => d.parameters.length) = some 2 := by decide +kernel
abbrev kc_M_mapByte : ByteArray := prog_7_method_50_code
abbrev ky_M_mapByte : MethodName := ⟨"FileTreeModel", "mapByte", "(I)I"⟩
abbrev kw_M_mapByte : List Cond := kw ky_M_mapByte kc_M_mapByte 4 (some .int)
theorem ko_M_mapByte : ko "FileTreeModel" ky_M_mapByte kc_M_mapByte 4 (some .int) := ⟨q_688, qs_37, q_7, q_689⟩
theorem kh_M_mapByte : (ky_M_mapByte).cls = "FileTreeModel" ∧ (ky_M_mapByte).cls ≠ "java/lang/invoke/MethodHandle" ∧ (ky_M_mapByte).cls ≠ "java/lang/invoke/VarHandle" ∧ (parseMethodDescriptor (ky_M_mapByte).desc).map (fun d => d.parameters.length) = some 1 := by decide +kernel
abbrev kc_M_peek : ByteArray := prog_7_method_51_code
abbrev ky_M_peek : MethodName := ⟨"FileTreeModel", "peek", "(II)I"⟩
abbrev kw_M_peek : List Cond := kw ky_M_peek kc_M_peek 3 (some .int)
theorem ko_M_peek : ko "FileTreeModel" ky_M_peek kc_M_peek 3 (some .int) := ⟨q_676, q_677, q_7, q_678⟩
theorem kh_M_peek : (ky_M_peek).cls = "FileTreeModel" ∧ (ky_M_peek).cls ≠ "java/lang/invoke/MethodHandle" ∧ (ky_M_peek).cls ≠ "java/lang/invoke/VarHandle" ∧ (parseMethodDescriptor (ky_M_peek).desc).map (fun d => d.parameters.length) = some 2 := by decide +kernel
abbrev kc_D_init : ByteArray := prog_2_method_1_code
abbrev ky_D_init : MethodName := ⟨"FileTree$Directories", "<init>", "()V"⟩
abbrev kw_D_init : List Cond := kw ky_D_init kc_D_init 1 none
abbrev kc_D_entryNamed : ByteArray := prog_2_method_2_code
abbrev ky_D_entryNamed : MethodName := ⟨"FileTree$Directories", "entryNamed", "(I[B)I"⟩
abbrev kw_D_entryNamed : List Cond := kw ky_D_entryNamed kc_D_entryNamed 6 (some .int)
theorem ko_D_entryNamed : ko "FileTree$Directories" ky_D_entryNamed kc_D_entryNamed 6 (some .int) := ⟨q_263, q_264, q_2, q_265⟩
theorem kh_D_entryNamed : (ky_D_entryNamed).cls = "FileTree$Directories" ∧ (ky_D_entryNamed).cls ≠ "java/lang/invoke/MethodHandle" ∧ (ky_D_entryNamed).cls ≠ "java/lang/invoke/VarHandle" ∧ (parseMethodDescriptor (ky_D_entryNamed).desc).map (fun d => d.parameters.length) = some 2 := by decide +kernel
abbrev kc_D_hasOnlyItsTwo : ByteArray := prog_2_method_3_code
abbrev ky_D_hasOnlyItsTwo : MethodName := ⟨"FileTree$Directories", "hasOnlyItsTwo", "(I)Z"⟩
abbrev kw_D_hasOnlyItsTwo : List Cond := kw ky_D_hasOnlyItsTwo kc_D_hasOnlyItsTwo 4 (some .boolean)
theorem ko_D_hasOnlyItsTwo : ko "FileTree$Directories" ky_D_hasOnlyItsTwo kc_D_hasOnlyItsTwo 4 (some .boolean) := ⟨q_321, q_322, q_2, q_323⟩
theorem kh_D_hasOnlyItsTwo : (ky_D_hasOnlyItsTwo).cls = "FileTree$Directories" ∧ (ky_D_hasOnlyItsTwo).cls ≠ "java/lang/invoke/MethodHandle" ∧ (ky_D_hasOnlyItsTwo).cls ≠ "java/lang/invoke/VarHandle" ∧ (parseMethodDescriptor (ky_D_hasOnlyItsTwo).desc).map (fun d => d.parameters.length) = some 1 := by decide +kernel
abbrev kc_D_hasRoom : ByteArray := prog_2_method_4_code
abbrev ky_D_hasRoom : MethodName := ⟨"FileTree$Directories", "hasRoom", "(II)Z"⟩
abbrev kw_D_hasRoom : List Cond := kw ky_D_hasRoom kc_D_hasRoom 5 (some .boolean)
theorem ko_D_hasRoom : ko "FileTree$Directories" ky_D_hasRoom kc_D_hasRoom 5 (some .boolean) := ⟨q_294, q_295, q_2, q_296⟩
theorem kh_D_hasRoom : (ky_D_hasRoom).cls = "FileTree$Directories" ∧ (ky_D_hasRoom).cls ≠ "java/lang/invoke/MethodHandle" ∧ (ky_D_hasRoom).cls ≠ "java/lang/invoke/VarHandle" ∧ (parseMethodDescriptor (ky_D_hasRoom).desc).map (fun d => d.parameters.length) = some 2 := by decide +kernel
abbrev kc_D_addEntry : ByteArray := prog_2_method_5_code
abbrev ky_D_addEntry : MethodName := ⟨"FileTree$Directories", "addEntry", "(I[BI)V"⟩
abbrev kw_D_addEntry : List Cond := kw ky_D_addEntry kc_D_addEntry 6 none
theorem ko_D_addEntry : ko "FileTree$Directories" ky_D_addEntry kc_D_addEntry 6 none := ⟨q_126, q_127, q_2, q_128⟩
theorem kh_D_addEntry : (ky_D_addEntry).cls = "FileTree$Directories" ∧ (ky_D_addEntry).cls ≠ "java/lang/invoke/MethodHandle" ∧ (ky_D_addEntry).cls ≠ "java/lang/invoke/VarHandle" ∧ (parseMethodDescriptor (ky_D_addEntry).desc).map (fun d => d.parameters.length) = some 3 := by decide +kernel
abbrev kc_D_wipeEntry : ByteArray := prog_2_method_6_code
abbrev ky_D_wipeEntry : MethodName := ⟨"FileTree$Directories", "wipeEntry", "(I)V"⟩
abbrev kw_D_wipeEntry : List Cond := kw ky_D_wipeEntry kc_D_wipeEntry 2 none
theorem ko_D_wipeEntry : ko "FileTree$Directories" ky_D_wipeEntry kc_D_wipeEntry 2 none := ⟨q_329, q_330, q_2, q_331⟩
theorem kh_D_wipeEntry : (ky_D_wipeEntry).cls = "FileTree$Directories" ∧ (ky_D_wipeEntry).cls ≠ "java/lang/invoke/MethodHandle" ∧ (ky_D_wipeEntry).cls ≠ "java/lang/invoke/VarHandle" ∧ (parseMethodDescriptor (ky_D_wipeEntry).desc).map (fun d => d.parameters.length) = some 1 := by decide +kernel
abbrev kc_D_begin : ByteArray := prog_2_method_7_code
abbrev ky_D_begin : MethodName := ⟨"FileTree$Directories", "begin", "(II)V"⟩
abbrev kw_D_begin : List Cond := kw ky_D_begin kc_D_begin 3 none
theorem ko_D_begin : ko "FileTree$Directories" ky_D_begin kc_D_begin 3 none := ⟨q_120, q_121, q_2, q_122⟩
theorem kh_D_begin : (ky_D_begin).cls = "FileTree$Directories" ∧ (ky_D_begin).cls ≠ "java/lang/invoke/MethodHandle" ∧ (ky_D_begin).cls ≠ "java/lang/invoke/VarHandle" ∧ (parseMethodDescriptor (ky_D_begin).desc).map (fun d => d.parameters.length) = some 2 := by decide +kernel
abbrev kc_D_end : ByteArray := prog_2_method_8_code
abbrev ky_D_end : MethodName := ⟨"FileTree$Directories", "end", "(II)V"⟩
abbrev kw_D_end : List Cond := kw ky_D_end kc_D_end 3 none
theorem ko_D_end : ko "FileTree$Directories" ky_D_end kc_D_end 3 none := ⟨q_325, q_326, q_2, q_327⟩
theorem kh_D_end : (ky_D_end).cls = "FileTree$Directories" ∧ (ky_D_end).cls ≠ "java/lang/invoke/MethodHandle" ∧ (ky_D_end).cls ≠ "java/lang/invoke/VarHandle" ∧ (parseMethodDescriptor (ky_D_end).desc).map (fun d => d.parameters.length) = some 2 := by decide +kernel
abbrev kc_D_sizeOf : ByteArray := prog_2_method_9_code
abbrev ky_D_sizeOf : MethodName := ⟨"FileTree$Directories", "sizeOf", "(I)I"⟩
abbrev kw_D_sizeOf : List Cond := kw ky_D_sizeOf kc_D_sizeOf 2 (some .int)
theorem ko_D_sizeOf : ko "FileTree$Directories" ky_D_sizeOf kc_D_sizeOf 2 (some .int) := ⟨q_135, qs_3, q_2, q_136⟩
theorem kh_D_sizeOf : (ky_D_sizeOf).cls = "FileTree$Directories" ∧ (ky_D_sizeOf).cls ≠ "java/lang/invoke/MethodHandle" ∧ (ky_D_sizeOf).cls ≠ "java/lang/invoke/VarHandle" ∧ (parseMethodDescriptor (ky_D_sizeOf).desc).map (fun d => d.parameters.length) = some 1 := by decide +kernel
abbrev kc_D_freeEntry : ByteArray := prog_2_method_10_code
abbrev ky_D_freeEntry : MethodName := ⟨"FileTree$Directories", "freeEntry", "(I)I"⟩
abbrev kw_D_freeEntry : List Cond := kw ky_D_freeEntry kc_D_freeEntry 5 (some .int)
theorem ko_D_freeEntry : ko "FileTree$Directories" ky_D_freeEntry kc_D_freeEntry 5 (some .int) := ⟨q_131, qs_2, q_2, q_132⟩
theorem kh_D_freeEntry : (ky_D_freeEntry).cls = "FileTree$Directories" ∧ (ky_D_freeEntry).cls ≠ "java/lang/invoke/MethodHandle" ∧ (ky_D_freeEntry).cls ≠ "java/lang/invoke/VarHandle" ∧ (parseMethodDescriptor (ky_D_freeEntry).desc).map (fun d => d.parameters.length) = some 1 := by decide +kernel
abbrev kc_D_hasName : ByteArray := prog_2_method_11_code
abbrev ky_D_hasName : MethodName := ⟨"FileTree$Directories", "hasName", "(I[B)Z"⟩
abbrev kw_D_hasName : List Cond := kw ky_D_hasName kc_D_hasName 4 (some .boolean)
theorem ko_D_hasName : ko "FileTree$Directories" ky_D_hasName kc_D_hasName 4 (some .boolean) := ⟨q_268, qs_7, q_2, q_269⟩
theorem kh_D_hasName : (ky_D_hasName).cls = "FileTree$Directories" ∧ (ky_D_hasName).cls ≠ "java/lang/invoke/MethodHandle" ∧ (ky_D_hasName).cls ≠ "java/lang/invoke/VarHandle" ∧ (parseMethodDescriptor (ky_D_hasName).desc).map (fun d => d.parameters.length) = some 2 := by decide +kernel
abbrev kc_D_nameByte : ByteArray := prog_2_method_12_code
abbrev ky_D_nameByte : MethodName := ⟨"FileTree$Directories", "nameByte", "([BI)I"⟩
abbrev kw_D_nameByte : List Cond := kw ky_D_nameByte kc_D_nameByte 3 (some .int)
theorem ko_D_nameByte : ko "FileTree$Directories" ky_D_nameByte kc_D_nameByte 3 (some .int) := ⟨q_195, qs_5, q_2, q_196⟩
theorem kh_D_nameByte : (ky_D_nameByte).cls = "FileTree$Directories" ∧ (ky_D_nameByte).cls ≠ "java/lang/invoke/MethodHandle" ∧ (ky_D_nameByte).cls ≠ "java/lang/invoke/VarHandle" ∧ (parseMethodDescriptor (ky_D_nameByte).desc).map (fun d => d.parameters.length) = some 2 := by decide +kernel
abbrev kc_K_init : ByteArray := prog_3_method_1_code
abbrev ky_K_init : MethodName := ⟨"FileTree$Disk", "<init>", "()V"⟩
abbrev kw_K_init : List Cond := kw ky_K_init kc_K_init 1 none
abbrev kc_K_numberAt : ByteArray := prog_3_method_2_code
abbrev ky_K_numberAt : MethodName := ⟨"FileTree$Disk", "numberAt", "(I)I"⟩
abbrev kw_K_numberAt : List Cond := kw ky_K_numberAt kc_K_numberAt 3 (some .int)
theorem ko_K_numberAt : ko "FileTree$Disk" ky_K_numberAt kc_K_numberAt 3 (some .int) := ⟨q_147, q_148, q_4, q_149⟩
theorem kh_K_numberAt : (ky_K_numberAt).cls = "FileTree$Disk" ∧ (ky_K_numberAt).cls ≠ "java/lang/invoke/MethodHandle" ∧ (ky_K_numberAt).cls ≠ "java/lang/invoke/VarHandle" ∧ (parseMethodDescriptor (ky_K_numberAt).desc).map (fun d => d.parameters.length) = some 1 := by decide +kernel
abbrev kc_K_setNumber : ByteArray := prog_3_method_3_code
abbrev ky_K_setNumber : MethodName := ⟨"FileTree$Disk", "setNumber", "(II)V"⟩
abbrev kw_K_setNumber : List Cond := kw ky_K_setNumber kc_K_setNumber 4 none
theorem ko_K_setNumber : ko "FileTree$Disk" ky_K_setNumber kc_K_setNumber 4 none := ⟨q_88, q_89, q_4, q_90⟩
theorem kh_K_setNumber : (ky_K_setNumber).cls = "FileTree$Disk" ∧ (ky_K_setNumber).cls ≠ "java/lang/invoke/MethodHandle" ∧ (ky_K_setNumber).cls ≠ "java/lang/invoke/VarHandle" ∧ (parseMethodDescriptor (ky_K_setNumber).desc).map (fun d => d.parameters.length) = some 2 := by decide +kernel
abbrev kc_K_partAt : ByteArray := prog_3_method_4_code
abbrev ky_K_partAt : MethodName := ⟨"FileTree$Disk", "partAt", "(II)I"⟩
abbrev kw_K_partAt : List Cond := kw ky_K_partAt kc_K_partAt 5 (some .int)
theorem ko_K_partAt : ko "FileTree$Disk" ky_K_partAt kc_K_partAt 5 (some .int) := ⟨q_97, q_98, q_4, q_99⟩
theorem kh_K_partAt : (ky_K_partAt).cls = "FileTree$Disk" ∧ (ky_K_partAt).cls ≠ "java/lang/invoke/MethodHandle" ∧ (ky_K_partAt).cls ≠ "java/lang/invoke/VarHandle" ∧ (parseMethodDescriptor (ky_K_partAt).desc).map (fun d => d.parameters.length) = some 2 := by decide +kernel
abbrev kc_K_setPart : ByteArray := prog_3_method_5_code
abbrev ky_K_setPart : MethodName := ⟨"FileTree$Disk", "setPart", "(III)V"⟩
abbrev kw_K_setPart : List Cond := kw ky_K_setPart kc_K_setPart 6 none
theorem ko_K_setPart : ko "FileTree$Disk" ky_K_setPart kc_K_setPart 6 none := ⟨q_101, q_102, q_4, q_103⟩
theorem kh_K_setPart : (ky_K_setPart).cls = "FileTree$Disk" ∧ (ky_K_setPart).cls ≠ "java/lang/invoke/MethodHandle" ∧ (ky_K_setPart).cls ≠ "java/lang/invoke/VarHandle" ∧ (parseMethodDescriptor (ky_K_setPart).desc).map (fun d => d.parameters.length) = some 3 := by decide +kernel
abbrev kc_K_format : ByteArray := prog_3_method_6_code
abbrev ky_K_format : MethodName := ⟨"FileTree$Disk", "format", "()V"⟩
abbrev kw_K_format : List Cond := kw ky_K_format kc_K_format 2 none
theorem ko_K_format : ko "FileTree$Disk" ky_K_format kc_K_format 2 none := ⟨q_82, q_83, q_4, q_84⟩
theorem kh_K_format : (ky_K_format).cls = "FileTree$Disk" ∧ (ky_K_format).cls ≠ "java/lang/invoke/MethodHandle" ∧ (ky_K_format).cls ≠ "java/lang/invoke/VarHandle" ∧ (parseMethodDescriptor (ky_K_format).desc).map (fun d => d.parameters.length) = some 0 := by decide +kernel
abbrev kc_K_freeBlocks : ByteArray := prog_3_method_7_code
abbrev ky_K_freeBlocks : MethodName := ⟨"FileTree$Disk", "freeBlocks", "()I"⟩
abbrev kw_K_freeBlocks : List Cond := kw ky_K_freeBlocks kc_K_freeBlocks 3 (some .int)
theorem ko_K_freeBlocks : ko "FileTree$Disk" ky_K_freeBlocks kc_K_freeBlocks 3 (some .int) := ⟨q_169, q_170, q_4, q_171⟩
theorem kh_K_freeBlocks : (ky_K_freeBlocks).cls = "FileTree$Disk" ∧ (ky_K_freeBlocks).cls ≠ "java/lang/invoke/MethodHandle" ∧ (ky_K_freeBlocks).cls ≠ "java/lang/invoke/VarHandle" ∧ (parseMethodDescriptor (ky_K_freeBlocks).desc).map (fun d => d.parameters.length) = some 0 := by decide +kernel
abbrev kc_K_takeBlock : ByteArray := prog_3_method_8_code
abbrev ky_K_takeBlock : MethodName := ⟨"FileTree$Disk", "takeBlock", "()I"⟩
abbrev kw_K_takeBlock : List Cond := kw ky_K_takeBlock kc_K_takeBlock 3 (some .int)
theorem ko_K_takeBlock : ko "FileTree$Disk" ky_K_takeBlock kc_K_takeBlock 3 (some .int) := ⟨q_180, q_181, q_4, q_182⟩
theorem kh_K_takeBlock : (ky_K_takeBlock).cls = "FileTree$Disk" ∧ (ky_K_takeBlock).cls ≠ "java/lang/invoke/MethodHandle" ∧ (ky_K_takeBlock).cls ≠ "java/lang/invoke/VarHandle" ∧ (parseMethodDescriptor (ky_K_takeBlock).desc).map (fun d => d.parameters.length) = some 0 := by decide +kernel
abbrev kc_K_giveBlock : ByteArray := prog_3_method_9_code
abbrev ky_K_giveBlock : MethodName := ⟨"FileTree$Disk", "giveBlock", "(I)V"⟩
abbrev kw_K_giveBlock : List Cond := kw ky_K_giveBlock kc_K_giveBlock 2 none
theorem ko_K_giveBlock : ko "FileTree$Disk" ky_K_giveBlock kc_K_giveBlock 2 none := ⟨q_347, q_348, q_4, q_349⟩
theorem kh_K_giveBlock : (ky_K_giveBlock).cls = "FileTree$Disk" ∧ (ky_K_giveBlock).cls ≠ "java/lang/invoke/MethodHandle" ∧ (ky_K_giveBlock).cls ≠ "java/lang/invoke/VarHandle" ∧ (parseMethodDescriptor (ky_K_giveBlock).desc).map (fun d => d.parameters.length) = some 1 := by decide +kernel
abbrev kc_K_wipe : ByteArray := prog_3_method_10_code
abbrev ky_K_wipe : MethodName := ⟨"FileTree$Disk", "wipe", "(II)V"⟩
abbrev kw_K_wipe : List Cond := kw ky_K_wipe kc_K_wipe 4 none
theorem ko_K_wipe : ko "FileTree$Disk" ky_K_wipe kc_K_wipe 4 none := ⟨q_184, q_185, q_4, q_186⟩
theorem kh_K_wipe : (ky_K_wipe).cls = "FileTree$Disk" ∧ (ky_K_wipe).cls ≠ "java/lang/invoke/MethodHandle" ∧ (ky_K_wipe).cls ≠ "java/lang/invoke/VarHandle" ∧ (parseMethodDescriptor (ky_K_wipe).desc).map (fun d => d.parameters.length) = some 2 := by decide +kernel
abbrev kc_K_mark : ByteArray := prog_3_method_11_code
abbrev ky_K_mark : MethodName := ⟨"FileTree$Disk", "mark", "(IZ)V"⟩
abbrev kw_K_mark : List Cond := kw ky_K_mark kc_K_mark 6 none
theorem ko_K_mark : ko "FileTree$Disk" ky_K_mark kc_K_mark 6 none := ⟨q_93, qs_0, q_4, q_94⟩
theorem kh_K_mark : (ky_K_mark).cls = "FileTree$Disk" ∧ (ky_K_mark).cls ≠ "java/lang/invoke/MethodHandle" ∧ (ky_K_mark).cls ≠ "java/lang/invoke/VarHandle" ∧ (parseMethodDescriptor (ky_K_mark).desc).map (fun d => d.parameters.length) = some 2 := by decide +kernel
abbrev kc_I_init : ByteArray := prog_4_method_1_code
abbrev ky_I_init : MethodName := ⟨"FileTree$Inodes", "<init>", "()V"⟩
abbrev kw_I_init : List Cond := kw ky_I_init kc_I_init 1 none
abbrev kc_I_isInode : ByteArray := prog_4_method_2_code
abbrev ky_I_isInode : MethodName := ⟨"FileTree$Inodes", "isInode", "(I)Z"⟩
abbrev kw_I_isInode : List Cond := kw ky_I_isInode kc_I_isInode 2 (some .boolean)
theorem ko_I_isInode : ko "FileTree$Inodes" ky_I_isInode kc_I_isInode 2 (some .boolean) := ⟨q_109, q_110, q_3, q_111⟩
theorem kh_I_isInode : (ky_I_isInode).cls = "FileTree$Inodes" ∧ (ky_I_isInode).cls ≠ "java/lang/invoke/MethodHandle" ∧ (ky_I_isInode).cls ≠ "java/lang/invoke/VarHandle" ∧ (parseMethodDescriptor (ky_I_isInode).desc).map (fun d => d.parameters.length) = some 1 := by decide +kernel
abbrev kc_I_inUse : ByteArray := prog_4_method_3_code
abbrev ky_I_inUse : MethodName := ⟨"FileTree$Inodes", "inUse", "(I)Z"⟩
abbrev kw_I_inUse : List Cond := kw ky_I_inUse kc_I_inUse 2 (some .boolean)
theorem ko_I_inUse : ko "FileTree$Inodes" ky_I_inUse kc_I_inUse 2 (some .boolean) := ⟨q_241, q_242, q_3, q_243⟩
theorem kh_I_inUse : (ky_I_inUse).cls = "FileTree$Inodes" ∧ (ky_I_inUse).cls ≠ "java/lang/invoke/MethodHandle" ∧ (ky_I_inUse).cls ≠ "java/lang/invoke/VarHandle" ∧ (parseMethodDescriptor (ky_I_inUse).desc).map (fun d => d.parameters.length) = some 1 := by decide +kernel
abbrev kc_I_kindOf : ByteArray := prog_4_method_4_code
abbrev ky_I_kindOf : MethodName := ⟨"FileTree$Inodes", "kindOf", "(I)I"⟩
abbrev kw_I_kindOf : List Cond := kw ky_I_kindOf kc_I_kindOf 2 (some .int)
theorem ko_I_kindOf : ko "FileTree$Inodes" ky_I_kindOf kc_I_kindOf 2 (some .int) := ⟨q_138, q_139, q_3, q_140⟩
theorem kh_I_kindOf : (ky_I_kindOf).cls = "FileTree$Inodes" ∧ (ky_I_kindOf).cls ≠ "java/lang/invoke/MethodHandle" ∧ (ky_I_kindOf).cls ≠ "java/lang/invoke/VarHandle" ∧ (parseMethodDescriptor (ky_I_kindOf).desc).map (fun d => d.parameters.length) = some 1 := by decide +kernel
abbrev kc_I_majorOf : ByteArray := prog_4_method_5_code
abbrev ky_I_majorOf : MethodName := ⟨"FileTree$Inodes", "majorOf", "(I)I"⟩
abbrev kw_I_majorOf : List Cond := kw ky_I_majorOf kc_I_majorOf 2 (some .int)
theorem ko_I_majorOf : ko "FileTree$Inodes" ky_I_majorOf kc_I_majorOf 2 (some .int) := ⟨q_405, q_406, q_3, q_407⟩
theorem kh_I_majorOf : (ky_I_majorOf).cls = "FileTree$Inodes" ∧ (ky_I_majorOf).cls ≠ "java/lang/invoke/MethodHandle" ∧ (ky_I_majorOf).cls ≠ "java/lang/invoke/VarHandle" ∧ (parseMethodDescriptor (ky_I_majorOf).desc).map (fun d => d.parameters.length) = some 1 := by decide +kernel
abbrev kc_I_minorOf : ByteArray := prog_4_method_6_code
abbrev ky_I_minorOf : MethodName := ⟨"FileTree$Inodes", "minorOf", "(I)I"⟩
abbrev kw_I_minorOf : List Cond := kw ky_I_minorOf kc_I_minorOf 2 (some .int)
theorem ko_I_minorOf : ko "FileTree$Inodes" ky_I_minorOf kc_I_minorOf 2 (some .int) := ⟨q_409, q_410, q_3, q_411⟩
theorem kh_I_minorOf : (ky_I_minorOf).cls = "FileTree$Inodes" ∧ (ky_I_minorOf).cls ≠ "java/lang/invoke/MethodHandle" ∧ (ky_I_minorOf).cls ≠ "java/lang/invoke/VarHandle" ∧ (parseMethodDescriptor (ky_I_minorOf).desc).map (fun d => d.parameters.length) = some 1 := by decide +kernel
abbrev kc_I_linksOf : ByteArray := prog_4_method_7_code
abbrev ky_I_linksOf : MethodName := ⟨"FileTree$Inodes", "linksOf", "(I)I"⟩
abbrev kw_I_linksOf : List Cond := kw ky_I_linksOf kc_I_linksOf 2 (some .int)
theorem ko_I_linksOf : ko "FileTree$Inodes" ky_I_linksOf kc_I_linksOf 2 (some .int) := ⟨q_204, q_205, q_3, q_206⟩
theorem kh_I_linksOf : (ky_I_linksOf).cls = "FileTree$Inodes" ∧ (ky_I_linksOf).cls ≠ "java/lang/invoke/MethodHandle" ∧ (ky_I_linksOf).cls ≠ "java/lang/invoke/VarHandle" ∧ (parseMethodDescriptor (ky_I_linksOf).desc).map (fun d => d.parameters.length) = some 1 := by decide +kernel
abbrev kc_I_sizeOf : ByteArray := prog_4_method_8_code
abbrev ky_I_sizeOf : MethodName := ⟨"FileTree$Inodes", "sizeOf", "(I)I"⟩
abbrev kw_I_sizeOf : List Cond := kw ky_I_sizeOf kc_I_sizeOf 2 (some .int)
theorem ko_I_sizeOf : ko "FileTree$Inodes" ky_I_sizeOf kc_I_sizeOf 2 (some .int) := ⟨q_143, q_144, q_3, q_145⟩
theorem kh_I_sizeOf : (ky_I_sizeOf).cls = "FileTree$Inodes" ∧ (ky_I_sizeOf).cls ≠ "java/lang/invoke/MethodHandle" ∧ (ky_I_sizeOf).cls ≠ "java/lang/invoke/VarHandle" ∧ (parseMethodDescriptor (ky_I_sizeOf).desc).map (fun d => d.parameters.length) = some 1 := by decide +kernel
abbrev kc_I_heldOf : ByteArray := prog_4_method_9_code
abbrev ky_I_heldOf : MethodName := ⟨"FileTree$Inodes", "heldOf", "(I)I"⟩
abbrev kw_I_heldOf : List Cond := kw ky_I_heldOf kc_I_heldOf 2 (some .int)
theorem ko_I_heldOf : ko "FileTree$Inodes" ky_I_heldOf kc_I_heldOf 2 (some .int) := ⟨q_339, q_340, q_3, q_341⟩
theorem kh_I_heldOf : (ky_I_heldOf).cls = "FileTree$Inodes" ∧ (ky_I_heldOf).cls ≠ "java/lang/invoke/MethodHandle" ∧ (ky_I_heldOf).cls ≠ "java/lang/invoke/VarHandle" ∧ (parseMethodDescriptor (ky_I_heldOf).desc).map (fun d => d.parameters.length) = some 1 := by decide +kernel
abbrev kc_I_addLinks : ByteArray := prog_4_method_10_code
abbrev ky_I_addLinks : MethodName := ⟨"FileTree$Inodes", "addLinks", "(II)V"⟩
abbrev kw_I_addLinks : List Cond := kw ky_I_addLinks kc_I_addLinks 3 none
theorem ko_I_addLinks : ko "FileTree$Inodes" ky_I_addLinks kc_I_addLinks 3 none := ⟨q_200, q_201, q_3, q_202⟩
theorem kh_I_addLinks : (ky_I_addLinks).cls = "FileTree$Inodes" ∧ (ky_I_addLinks).cls ≠ "java/lang/invoke/MethodHandle" ∧ (ky_I_addLinks).cls ≠ "java/lang/invoke/VarHandle" ∧ (parseMethodDescriptor (ky_I_addLinks).desc).map (fun d => d.parameters.length) = some 2 := by decide +kernel
abbrev kc_I_setSize : ByteArray := prog_4_method_11_code
abbrev ky_I_setSize : MethodName := ⟨"FileTree$Inodes", "setSize", "(II)V"⟩
abbrev kw_I_setSize : List Cond := kw ky_I_setSize kc_I_setSize 3 none
theorem ko_I_setSize : ko "FileTree$Inodes" ky_I_setSize kc_I_setSize 3 none := ⟨q_189, q_190, q_3, q_191⟩
theorem kh_I_setSize : (ky_I_setSize).cls = "FileTree$Inodes" ∧ (ky_I_setSize).cls ≠ "java/lang/invoke/MethodHandle" ∧ (ky_I_setSize).cls ≠ "java/lang/invoke/VarHandle" ∧ (parseMethodDescriptor (ky_I_setSize).desc).map (fun d => d.parameters.length) = some 2 := by decide +kernel
abbrev kc_I_addHeld : ByteArray := prog_4_method_12_code
abbrev ky_I_addHeld : MethodName := ⟨"FileTree$Inodes", "addHeld", "(II)V"⟩
abbrev kw_I_addHeld : List Cond := kw ky_I_addHeld kc_I_addHeld 3 none
theorem ko_I_addHeld : ko "FileTree$Inodes" ky_I_addHeld kc_I_addHeld 3 none := ⟨q_356, q_357, q_3, q_358⟩
theorem kh_I_addHeld : (ky_I_addHeld).cls = "FileTree$Inodes" ∧ (ky_I_addHeld).cls ≠ "java/lang/invoke/MethodHandle" ∧ (ky_I_addHeld).cls ≠ "java/lang/invoke/VarHandle" ∧ (parseMethodDescriptor (ky_I_addHeld).desc).map (fun d => d.parameters.length) = some 2 := by decide +kernel
abbrev kc_I_leastFree : ByteArray := prog_4_method_13_code
abbrev ky_I_leastFree : MethodName := ⟨"FileTree$Inodes", "leastFree", "()I"⟩
abbrev kw_I_leastFree : List Cond := kw ky_I_leastFree kc_I_leastFree 2 (some .int)
theorem ko_I_leastFree : ko "FileTree$Inodes" ky_I_leastFree kc_I_leastFree 2 (some .int) := ⟨q_289, q_290, q_3, q_291⟩
theorem kh_I_leastFree : (ky_I_leastFree).cls = "FileTree$Inodes" ∧ (ky_I_leastFree).cls ≠ "java/lang/invoke/MethodHandle" ∧ (ky_I_leastFree).cls ≠ "java/lang/invoke/VarHandle" ∧ (parseMethodDescriptor (ky_I_leastFree).desc).map (fun d => d.parameters.length) = some 0 := by decide +kernel
abbrev kc_I_make : ByteArray := prog_4_method_14_code
abbrev ky_I_make : MethodName := ⟨"FileTree$Inodes", "make", "(IIII)V"⟩
abbrev kw_I_make : List Cond := kw ky_I_make kc_I_make 6 none
theorem ko_I_make : ko "FileTree$Inodes" ky_I_make kc_I_make 6 none := ⟨q_105, q_106, q_3, q_107⟩
theorem kh_I_make : (ky_I_make).cls = "FileTree$Inodes" ∧ (ky_I_make).cls ≠ "java/lang/invoke/MethodHandle" ∧ (ky_I_make).cls ≠ "java/lang/invoke/VarHandle" ∧ (parseMethodDescriptor (ky_I_make).desc).map (fun d => d.parameters.length) = some 4 := by decide +kernel
abbrev kc_I_freeIfLeft : ByteArray := prog_4_method_15_code
abbrev ky_I_freeIfLeft : MethodName := ⟨"FileTree$Inodes", "freeIfLeft", "(I)Z"⟩
abbrev kw_I_freeIfLeft : List Cond := kw ky_I_freeIfLeft kc_I_freeIfLeft 2 (some .boolean)
theorem ko_I_freeIfLeft : ko "FileTree$Inodes" ky_I_freeIfLeft kc_I_freeIfLeft 2 (some .boolean) := ⟨q_335, q_336, q_3, q_337⟩
theorem kh_I_freeIfLeft : (ky_I_freeIfLeft).cls = "FileTree$Inodes" ∧ (ky_I_freeIfLeft).cls ≠ "java/lang/invoke/MethodHandle" ∧ (ky_I_freeIfLeft).cls ≠ "java/lang/invoke/VarHandle" ∧ (parseMethodDescriptor (ky_I_freeIfLeft).desc).map (fun d => d.parameters.length) = some 1 := by decide +kernel
abbrev kc_I_dropBlocks : ByteArray := prog_4_method_16_code
abbrev ky_I_dropBlocks : MethodName := ⟨"FileTree$Inodes", "dropBlocks", "(I)V"⟩
abbrev kw_I_dropBlocks : List Cond := kw ky_I_dropBlocks kc_I_dropBlocks 3 none
theorem ko_I_dropBlocks : ko "FileTree$Inodes" ky_I_dropBlocks kc_I_dropBlocks 3 none := ⟨q_343, q_344, q_3, q_345⟩
theorem kh_I_dropBlocks : (ky_I_dropBlocks).cls = "FileTree$Inodes" ∧ (ky_I_dropBlocks).cls ≠ "java/lang/invoke/MethodHandle" ∧ (ky_I_dropBlocks).cls ≠ "java/lang/invoke/VarHandle" ∧ (parseMethodDescriptor (ky_I_dropBlocks).desc).map (fun d => d.parameters.length) = some 1 := by decide +kernel
abbrev kc_I_blocksToAdd : ByteArray := prog_4_method_17_code
abbrev ky_I_blocksToAdd : MethodName := ⟨"FileTree$Inodes", "blocksToAdd", "(I)I"⟩
abbrev kw_I_blocksToAdd : List Cond := kw ky_I_blocksToAdd kc_I_blocksToAdd 2 (some .int)
theorem ko_I_blocksToAdd : ko "FileTree$Inodes" ky_I_blocksToAdd kc_I_blocksToAdd 2 (some .int) := ⟨q_165, q_166, q_3, q_167⟩
theorem kh_I_blocksToAdd : (ky_I_blocksToAdd).cls = "FileTree$Inodes" ∧ (ky_I_blocksToAdd).cls ≠ "java/lang/invoke/MethodHandle" ∧ (ky_I_blocksToAdd).cls ≠ "java/lang/invoke/VarHandle" ∧ (parseMethodDescriptor (ky_I_blocksToAdd).desc).map (fun d => d.parameters.length) = some 1 := by decide +kernel
abbrev kc_I_addBlock : ByteArray := prog_4_method_18_code
abbrev ky_I_addBlock : MethodName := ⟨"FileTree$Inodes", "addBlock", "(II)Z"⟩
abbrev kw_I_addBlock : List Cond := kw ky_I_addBlock kc_I_addBlock 3 (some .boolean)
theorem ko_I_addBlock : ko "FileTree$Inodes" ky_I_addBlock kc_I_addBlock 3 (some .boolean) := ⟨q_161, q_162, q_3, q_163⟩
theorem kh_I_addBlock : (ky_I_addBlock).cls = "FileTree$Inodes" ∧ (ky_I_addBlock).cls ≠ "java/lang/invoke/MethodHandle" ∧ (ky_I_addBlock).cls ≠ "java/lang/invoke/VarHandle" ∧ (parseMethodDescriptor (ky_I_addBlock).desc).map (fun d => d.parameters.length) = some 2 := by decide +kernel
abbrev kc_I_placeOfByte : ByteArray := prog_4_method_19_code
abbrev ky_I_placeOfByte : MethodName := ⟨"FileTree$Inodes", "placeOfByte", "(II)I"⟩
abbrev kw_I_placeOfByte : List Cond := kw ky_I_placeOfByte kc_I_placeOfByte 4 (some .int)
theorem ko_I_placeOfByte : ko "FileTree$Inodes" ky_I_placeOfByte kc_I_placeOfByte 4 (some .int) := ⟨q_151, q_152, q_3, q_153⟩
theorem kh_I_placeOfByte : (ky_I_placeOfByte).cls = "FileTree$Inodes" ∧ (ky_I_placeOfByte).cls ≠ "java/lang/invoke/MethodHandle" ∧ (ky_I_placeOfByte).cls ≠ "java/lang/invoke/VarHandle" ∧ (parseMethodDescriptor (ky_I_placeOfByte).desc).map (fun d => d.parameters.length) = some 2 := by decide +kernel
abbrev kc_I_bring : ByteArray := prog_4_method_20_code
abbrev ky_I_bring : MethodName := ⟨"FileTree$Inodes", "bring", "(III[B)I"⟩
abbrev kw_I_bring : List Cond := kw ky_I_bring kc_I_bring 11 (some .int)
theorem ko_I_bring : ko "FileTree$Inodes" ky_I_bring kc_I_bring 11 (some .int) := ⟨q_373, q_374, q_3, q_375⟩
theorem kh_I_bring : (ky_I_bring).cls = "FileTree$Inodes" ∧ (ky_I_bring).cls ≠ "java/lang/invoke/MethodHandle" ∧ (ky_I_bring).cls ≠ "java/lang/invoke/VarHandle" ∧ (parseMethodDescriptor (ky_I_bring).desc).map (fun d => d.parameters.length) = some 4 := by decide +kernel
abbrev kc_I_put : ByteArray := prog_4_method_21_code
abbrev ky_I_put : MethodName := ⟨"FileTree$Inodes", "put", "(III[B)I"⟩
abbrev kw_I_put : List Cond := kw ky_I_put kc_I_put 11 (some .int)
theorem ko_I_put : ko "FileTree$Inodes" ky_I_put kc_I_put 11 (some .int) := ⟨q_387, q_388, q_3, q_389⟩
theorem kh_I_put : (ky_I_put).cls = "FileTree$Inodes" ∧ (ky_I_put).cls ≠ "java/lang/invoke/MethodHandle" ∧ (ky_I_put).cls ≠ "java/lang/invoke/VarHandle" ∧ (parseMethodDescriptor (ky_I_put).desc).map (fun d => d.parameters.length) = some 4 := by decide +kernel
abbrev kc_I_placeOf : ByteArray := prog_4_method_22_code
abbrev ky_I_placeOf : MethodName := ⟨"FileTree$Inodes", "placeOf", "(I)I"⟩
abbrev kw_I_placeOf : List Cond := kw ky_I_placeOf kc_I_placeOf 2 (some .int)
theorem ko_I_placeOf : ko "FileTree$Inodes" ky_I_placeOf kc_I_placeOf 2 (some .int) := ⟨q_114, qs_1, q_3, q_115⟩
theorem kh_I_placeOf : (ky_I_placeOf).cls = "FileTree$Inodes" ∧ (ky_I_placeOf).cls ≠ "java/lang/invoke/MethodHandle" ∧ (ky_I_placeOf).cls ≠ "java/lang/invoke/VarHandle" ∧ (parseMethodDescriptor (ky_I_placeOf).desc).map (fun d => d.parameters.length) = some 1 := by decide +kernel
abbrev kc_I_slotOf : ByteArray := prog_4_method_23_code
abbrev ky_I_slotOf : MethodName := ⟨"FileTree$Inodes", "slotOf", "(II)I"⟩
abbrev kw_I_slotOf : List Cond := kw ky_I_slotOf kc_I_slotOf 4 (some .int)
theorem ko_I_slotOf : ko "FileTree$Inodes" ky_I_slotOf kc_I_slotOf 4 (some .int) := ⟨q_156, qs_4, q_3, q_157⟩
theorem kh_I_slotOf : (ky_I_slotOf).cls = "FileTree$Inodes" ∧ (ky_I_slotOf).cls ≠ "java/lang/invoke/MethodHandle" ∧ (ky_I_slotOf).cls ≠ "java/lang/invoke/VarHandle" ∧ (parseMethodDescriptor (ky_I_slotOf).desc).map (fun d => d.parameters.length) = some 2 := by decide +kernel
abbrev kc_X_init : ByteArray := prog_5_method_1_code
abbrev ky_X_init : MethodName := ⟨"FileTree$Text", "<init>", "()V"⟩
abbrev kw_X_init : List Cond := kw ky_X_init kc_X_init 1 none
abbrev kc_X_append : ByteArray := prog_5_method_2_code
abbrev ky_X_append : MethodName := ⟨"FileTree$Text", "append", "(J)Z"⟩
abbrev kw_X_append : List Cond := kw ky_X_append kc_X_append 6 (some .boolean)
theorem ko_X_append : ko "FileTree$Text" ky_X_append kc_X_append 6 (some .boolean) := ⟨q_228, q_229, q_5, q_230⟩
theorem kh_X_append : (ky_X_append).cls = "FileTree$Text" ∧ (ky_X_append).cls ≠ "java/lang/invoke/MethodHandle" ∧ (ky_X_append).cls ≠ "java/lang/invoke/VarHandle" ∧ (parseMethodDescriptor (ky_X_append).desc).map (fun d => d.parameters.length) = some 1 := by decide +kernel
abbrev kc_X_empty : ByteArray := prog_5_method_3_code
abbrev ky_X_empty : MethodName := ⟨"FileTree$Text", "empty", "()V"⟩
abbrev kw_X_empty : List Cond := kw ky_X_empty kc_X_empty 1 none
theorem ko_X_empty : ko "FileTree$Text" ky_X_empty kc_X_empty 1 none := ⟨q_273, q_274, q_5, q_275⟩
theorem kh_X_empty : (ky_X_empty).cls = "FileTree$Text" ∧ (ky_X_empty).cls ≠ "java/lang/invoke/MethodHandle" ∧ (ky_X_empty).cls ≠ "java/lang/invoke/VarHandle" ∧ (parseMethodDescriptor (ky_X_empty).desc).map (fun d => d.parameters.length) = some 0 := by decide +kernel
abbrev kc_X_byteAt : ByteArray := prog_5_method_4_code
abbrev ky_X_byteAt : MethodName := ⟨"FileTree$Text", "byteAt", "(I)I"⟩
abbrev kw_X_byteAt : List Cond := kw ky_X_byteAt kc_X_byteAt 2 (some .int)
theorem ko_X_byteAt : ko "FileTree$Text" ky_X_byteAt kc_X_byteAt 2 (some .int) := ⟨q_250, q_251, q_5, q_252⟩
theorem kh_X_byteAt : (ky_X_byteAt).cls = "FileTree$Text" ∧ (ky_X_byteAt).cls ≠ "java/lang/invoke/MethodHandle" ∧ (ky_X_byteAt).cls ≠ "java/lang/invoke/VarHandle" ∧ (parseMethodDescriptor (ky_X_byteAt).desc).map (fun d => d.parameters.length) = some 1 := by decide +kernel
abbrev kc_X_firstBlank : ByteArray := prog_5_method_5_code
abbrev ky_X_firstBlank : MethodName := ⟨"FileTree$Text", "firstBlank", "()I"⟩
abbrev kw_X_firstBlank : List Cond := kw ky_X_firstBlank kc_X_firstBlank 2 (some .int)
theorem ko_X_firstBlank : ko "FileTree$Text" ky_X_firstBlank kc_X_firstBlank 2 (some .int) := ⟨q_307, q_308, q_5, q_309⟩
theorem kh_X_firstBlank : (ky_X_firstBlank).cls = "FileTree$Text" ∧ (ky_X_firstBlank).cls ≠ "java/lang/invoke/MethodHandle" ∧ (ky_X_firstBlank).cls ≠ "java/lang/invoke/VarHandle" ∧ (parseMethodDescriptor (ky_X_firstBlank).desc).map (fun d => d.parameters.length) = some 0 := by decide +kernel
abbrev kc_X_isPath : ByteArray := prog_5_method_6_code
abbrev ky_X_isPath : MethodName := ⟨"FileTree$Text", "isPath", "(II)Z"⟩
abbrev kw_X_isPath : List Cond := kw ky_X_isPath kc_X_isPath 4 (some .boolean)
theorem ko_X_isPath : ko "FileTree$Text" ky_X_isPath kc_X_isPath 4 (some .boolean) := ⟨q_246, q_247, q_5, q_248⟩
theorem kh_X_isPath : (ky_X_isPath).cls = "FileTree$Text" ∧ (ky_X_isPath).cls ≠ "java/lang/invoke/MethodHandle" ∧ (ky_X_isPath).cls ≠ "java/lang/invoke/VarHandle" ∧ (parseMethodDescriptor (ky_X_isPath).desc).map (fun d => d.parameters.length) = some 2 := by decide +kernel
abbrev kc_X_nameBegins : ByteArray := prog_5_method_7_code
abbrev ky_X_nameBegins : MethodName := ⟨"FileTree$Text", "nameBegins", "(II)Z"⟩
abbrev kw_X_nameBegins : List Cond := kw ky_X_nameBegins kc_X_nameBegins 3 (some .boolean)
theorem ko_X_nameBegins : ko "FileTree$Text" ky_X_nameBegins kc_X_nameBegins 3 (some .boolean) := ⟨q_255, q_256, q_5, q_257⟩
theorem kh_X_nameBegins : (ky_X_nameBegins).cls = "FileTree$Text" ∧ (ky_X_nameBegins).cls ≠ "java/lang/invoke/MethodHandle" ∧ (ky_X_nameBegins).cls ≠ "java/lang/invoke/VarHandle" ∧ (parseMethodDescriptor (ky_X_nameBegins).desc).map (fun d => d.parameters.length) = some 2 := by decide +kernel
abbrev kc_X_copyName : ByteArray := prog_5_method_8_code
abbrev ky_X_copyName : MethodName := ⟨"FileTree$Text", "copyName", "([BII)V"⟩
abbrev kw_X_copyName : List Cond := kw ky_X_copyName kc_X_copyName 6 none
theorem ko_X_copyName : ko "FileTree$Text" ky_X_copyName kc_X_copyName 6 none := ⟨q_259, q_260, q_5, q_261⟩
theorem kh_X_copyName : (ky_X_copyName).cls = "FileTree$Text" ∧ (ky_X_copyName).cls ≠ "java/lang/invoke/MethodHandle" ∧ (ky_X_copyName).cls ≠ "java/lang/invoke/VarHandle" ∧ (parseMethodDescriptor (ky_X_copyName).desc).map (fun d => d.parameters.length) = some 3 := by decide +kernel
abbrev kc_X_cutLastName : ByteArray := prog_5_method_9_code
abbrev ky_X_cutLastName : MethodName := ⟨"FileTree$Text", "cutLastName", "(II)I"⟩
abbrev kw_X_cutLastName : List Cond := kw ky_X_cutLastName kc_X_cutLastName 5 (some .int)
theorem ko_X_cutLastName : ko "FileTree$Text" ky_X_cutLastName kc_X_cutLastName 5 (some .int) := ⟨q_281, q_282, q_5, q_283⟩
theorem kh_X_cutLastName : (ky_X_cutLastName).cls = "FileTree$Text" ∧ (ky_X_cutLastName).cls ≠ "java/lang/invoke/MethodHandle" ∧ (ky_X_cutLastName).cls ≠ "java/lang/invoke/VarHandle" ∧ (parseMethodDescriptor (ky_X_cutLastName).desc).map (fun d => d.parameters.length) = some 2 := by decide +kernel
abbrev kc_X_lastIsDots : ByteArray := prog_5_method_10_code
abbrev ky_X_lastIsDots : MethodName := ⟨"FileTree$Text", "lastIsDots", "()Z"⟩
abbrev kw_X_lastIsDots : List Cond := kw ky_X_lastIsDots kc_X_lastIsDots 1 (some .boolean)
theorem ko_X_lastIsDots : ko "FileTree$Text" ky_X_lastIsDots kc_X_lastIsDots 1 (some .boolean) := ⟨q_317, q_318, q_5, q_319⟩
theorem kh_X_lastIsDots : (ky_X_lastIsDots).cls = "FileTree$Text" ∧ (ky_X_lastIsDots).cls ≠ "java/lang/invoke/MethodHandle" ∧ (ky_X_lastIsDots).cls ≠ "java/lang/invoke/VarHandle" ∧ (parseMethodDescriptor (ky_X_lastIsDots).desc).map (fun d => d.parameters.length) = some 0 := by decide +kernel
abbrev kc_J_bitCount : ByteArray := prog_8_method_49_code
abbrev ky_J_bitCount : MethodName := ⟨"java/lang/Integer", "bitCount", "(I)I"⟩
abbrev kw_J_bitCount : List Cond := kw ky_J_bitCount kc_J_bitCount 1 (some .int)
theorem ko_J_bitCount : kos ky_J_bitCount kc_J_bitCount 1 (some .int) := ⟨q_174, q_6, q_175⟩
theorem kh_J_bitCount : (ky_J_bitCount).cls ≠ "java/lang/invoke/MethodHandle" ∧ (ky_J_bitCount).cls ≠ "java/lang/invoke/VarHandle" ∧ (parseMethodDescriptor (ky_J_bitCount).desc).map (fun d => d.parameters.length) = some 1 := by decide +kernel
theorem qm_min_s : Cond.static Lib.Math.min.name ∈ lw_g := q_370
theorem qm_min_c : Cond.code Lib.Math.min.name Lib.Math.min.code 2 (some .int) ∈ lw_g := q_371
theorem qm_max_s : Cond.static Lib.Math.max.name ∈ lw_g := q_378
theorem qm_max_c : Cond.code Lib.Math.max.name Lib.Math.max.code 2 (some .int) ∈ lw_g := q_379
theorem qm_i : Cond.initialized "java/lang/Math" ∈ lw_g := q_8
