section
-- ===== PART A: goes FIRST, ahead of the names: the tables' words, and 'selects' of the private methods out of them =====
/-- a private method of a class that the tables say can be made, by its rows of tables_1 -/
def lw_okq (q : MethodName × Nat) : Prop := (q.1.cls ≠ "java/lang/invoke/MethodHandle" ∧ q.1.cls ≠ "java/lang/invoke/VarHandle") ∧ Cond.instantiable q.1.cls q.2 ∈ tables_1 ∧ Cond.privateMethod q.1 ∈ tables_1 ∧ Cond.instanceMethod q.1 ∈ tables_1
theorem lw_p0 : lw_okq (⟨"FileTree$Disk", "mark", "(IZ)V"⟩, 1) := ⟨⟨by decide +kernel, by decide +kernel⟩, List.mem_of_getElem? (i := 30) (by decide +kernel), List.mem_of_getElem? (i := 92) (by decide +kernel), List.mem_of_getElem? (i := 93) (by decide +kernel)⟩
theorem lw_p1 : lw_okq (⟨"FileTree$Inodes", "placeOf", "(I)I"⟩, 2) := ⟨⟨by decide +kernel, by decide +kernel⟩, List.mem_of_getElem? (i := 24) (by decide +kernel), List.mem_of_getElem? (i := 113) (by decide +kernel), List.mem_of_getElem? (i := 114) (by decide +kernel)⟩
theorem lw_p2 : lw_okq (⟨"FileTree$Directories", "freeEntry", "(I)I"⟩, 2) := ⟨⟨by decide +kernel, by decide +kernel⟩, List.mem_of_getElem? (i := 18) (by decide +kernel), List.mem_of_getElem? (i := 130) (by decide +kernel), List.mem_of_getElem? (i := 131) (by decide +kernel)⟩
theorem lw_p3 : lw_okq (⟨"FileTree$Directories", "sizeOf", "(I)I"⟩, 2) := ⟨⟨by decide +kernel, by decide +kernel⟩, List.mem_of_getElem? (i := 18) (by decide +kernel), List.mem_of_getElem? (i := 134) (by decide +kernel), List.mem_of_getElem? (i := 135) (by decide +kernel)⟩
theorem lw_p4 : lw_okq (⟨"FileTree$Inodes", "slotOf", "(II)I"⟩, 2) := ⟨⟨by decide +kernel, by decide +kernel⟩, List.mem_of_getElem? (i := 24) (by decide +kernel), List.mem_of_getElem? (i := 155) (by decide +kernel), List.mem_of_getElem? (i := 156) (by decide +kernel)⟩
theorem lw_p5 : lw_okq (⟨"FileTree$Directories", "nameByte", "([BI)I"⟩, 2) := ⟨⟨by decide +kernel, by decide +kernel⟩, List.mem_of_getElem? (i := 18) (by decide +kernel), List.mem_of_getElem? (i := 194) (by decide +kernel), List.mem_of_getElem? (i := 195) (by decide +kernel)⟩
theorem lw_p6 : lw_okq (⟨"FileTree", "lead", "(III)I"⟩, 5) := ⟨⟨by decide +kernel, by decide +kernel⟩, List.mem_of_getElem? (i := 10) (by decide +kernel), List.mem_of_getElem? (i := 237) (by decide +kernel), List.mem_of_getElem? (i := 238) (by decide +kernel)⟩
theorem lw_p7 : lw_okq (⟨"FileTree$Directories", "hasName", "(I[B)Z"⟩, 2) := ⟨⟨by decide +kernel, by decide +kernel⟩, List.mem_of_getElem? (i := 18) (by decide +kernel), List.mem_of_getElem? (i := 267) (by decide +kernel), List.mem_of_getElem? (i := 268) (by decide +kernel)⟩
theorem lw_p8 : lw_okq (⟨"FileTreeModel", "begins", "(II)V"⟩, 18) := ⟨⟨by decide +kernel, by decide +kernel⟩, List.mem_of_getElem? (i := 434) (by decide +kernel), List.mem_of_getElem? (i := 442) (by decide +kernel), List.mem_of_getElem? (i := 443) (by decide +kernel)⟩
theorem lw_p9 : lw_okq (⟨"FileTreeModel", "grow", "(I)V"⟩, 18) := ⟨⟨by decide +kernel, by decide +kernel⟩, List.mem_of_getElem? (i := 434) (by decide +kernel), List.mem_of_getElem? (i := 446) (by decide +kernel), List.mem_of_getElem? (i := 447) (by decide +kernel)⟩
theorem lw_p10 : lw_okq (⟨"FileTreeModel", "take", "()I"⟩, 18) := ⟨⟨by decide +kernel, by decide +kernel⟩, List.mem_of_getElem? (i := 434) (by decide +kernel), List.mem_of_getElem? (i := 450) (by decide +kernel), List.mem_of_getElem? (i := 451) (by decide +kernel)⟩
theorem lw_p11 : lw_okq (⟨"FileTreeModel", "putNumber", "(III)V"⟩, 18) := ⟨⟨by decide +kernel, by decide +kernel⟩, List.mem_of_getElem? (i := 434) (by decide +kernel), List.mem_of_getElem? (i := 454) (by decide +kernel), List.mem_of_getElem? (i := 455) (by decide +kernel)⟩
theorem lw_p12 : lw_okq (⟨"FileTreeModel", "dots", "(I)V"⟩, 18) := ⟨⟨by decide +kernel, by decide +kernel⟩, List.mem_of_getElem? (i := 434) (by decide +kernel), List.mem_of_getElem? (i := 458) (by decide +kernel), List.mem_of_getElem? (i := 459) (by decide +kernel)⟩
theorem lw_p13 : lw_okq (⟨"FileTreeModel", "lay", "(III)V"⟩, 18) := ⟨⟨by decide +kernel, by decide +kernel⟩, List.mem_of_getElem? (i := 434) (by decide +kernel), List.mem_of_getElem? (i := 462) (by decide +kernel), List.mem_of_getElem? (i := 463) (by decide +kernel)⟩
theorem lw_p14 : lw_okq (⟨"FileTreeModel", "place", "(II)I"⟩, 18) := ⟨⟨by decide +kernel, by decide +kernel⟩, List.mem_of_getElem? (i := 434) (by decide +kernel), List.mem_of_getElem? (i := 466) (by decide +kernel), List.mem_of_getElem? (i := 467) (by decide +kernel)⟩
theorem lw_p15 : lw_okq (⟨"FileTreeModel", "taken", "()I"⟩, 18) := ⟨⟨by decide +kernel, by decide +kernel⟩, List.mem_of_getElem? (i := 434) (by decide +kernel), List.mem_of_getElem? (i := 535) (by decide +kernel), List.mem_of_getElem? (i := 536) (by decide +kernel)⟩
def lw_privs_1 : List (MethodName × Nat) := [(⟨"FileTree$Disk", "mark", "(IZ)V"⟩, 1), (⟨"FileTree$Inodes", "placeOf", "(I)I"⟩, 2), (⟨"FileTree$Directories", "freeEntry", "(I)I"⟩, 2), (⟨"FileTree$Directories", "sizeOf", "(I)I"⟩, 2), (⟨"FileTree$Inodes", "slotOf", "(II)I"⟩, 2), (⟨"FileTree$Directories", "nameByte", "([BI)I"⟩, 2), (⟨"FileTree", "lead", "(III)I"⟩, 5), (⟨"FileTree$Directories", "hasName", "(I[B)Z"⟩, 2), (⟨"FileTreeModel", "begins", "(II)V"⟩, 18), (⟨"FileTreeModel", "grow", "(I)V"⟩, 18), (⟨"FileTreeModel", "take", "()I"⟩, 18), (⟨"FileTreeModel", "putNumber", "(III)V"⟩, 18), (⟨"FileTreeModel", "dots", "(I)V"⟩, 18), (⟨"FileTreeModel", "lay", "(III)V"⟩, 18), (⟨"FileTreeModel", "place", "(II)I"⟩, 18), (⟨"FileTreeModel", "taken", "()I"⟩, 18)]
theorem lw_r1 : ∀ q ∈ lw_privs_1, lw_okq q := List.forall_mem_cons.mpr ⟨lw_p0, List.forall_mem_cons.mpr ⟨lw_p1, List.forall_mem_cons.mpr ⟨lw_p2, List.forall_mem_cons.mpr ⟨lw_p3, List.forall_mem_cons.mpr ⟨lw_p4, List.forall_mem_cons.mpr ⟨lw_p5, List.forall_mem_cons.mpr ⟨lw_p6, List.forall_mem_cons.mpr ⟨lw_p7, List.forall_mem_cons.mpr ⟨lw_p8, List.forall_mem_cons.mpr ⟨lw_p9, List.forall_mem_cons.mpr ⟨lw_p10, List.forall_mem_cons.mpr ⟨lw_p11, List.forall_mem_cons.mpr ⟨lw_p12, List.forall_mem_cons.mpr ⟨lw_p13, List.forall_mem_cons.mpr ⟨lw_p14, List.forall_mem_cons.mpr ⟨lw_p15, fun _ h => absurd h List.not_mem_nil⟩⟩⟩⟩⟩⟩⟩⟩⟩⟩⟩⟩⟩⟩⟩⟩
theorem lw_p16 : lw_okq (⟨"FileTreeModel", "leads", "(III)I"⟩, 18) := ⟨⟨by decide +kernel, by decide +kernel⟩, List.mem_of_getElem? (i := 434) (by decide +kernel), List.mem_of_getElem? (i := 539) (by decide +kernel), List.mem_of_getElem? (i := 540) (by decide +kernel)⟩
theorem lw_p17 : lw_okq (⟨"FileTreeModel", "begin", "(III)I"⟩, 18) := ⟨⟨by decide +kernel, by decide +kernel⟩, List.mem_of_getElem? (i := 434) (by decide +kernel), List.mem_of_getElem? (i := 543) (by decide +kernel), List.mem_of_getElem? (i := 544) (by decide +kernel)⟩
theorem lw_p18 : lw_okq (⟨"FileTreeModel", "there", "(I)Z"⟩, 18) := ⟨⟨by decide +kernel, by decide +kernel⟩, List.mem_of_getElem? (i := 434) (by decide +kernel), List.mem_of_getElem? (i := 547) (by decide +kernel), List.mem_of_getElem? (i := 548) (by decide +kernel)⟩
theorem lw_p19 : lw_okq (⟨"FileTreeModel", "named", "()Z"⟩, 18) := ⟨⟨by decide +kernel, by decide +kernel⟩, List.mem_of_getElem? (i := 434) (by decide +kernel), List.mem_of_getElem? (i := 554) (by decide +kernel), List.mem_of_getElem? (i := 555) (by decide +kernel)⟩
theorem lw_p20 : lw_okq (⟨"FileTreeModel", "slashes", "()V"⟩, 18) := ⟨⟨by decide +kernel, by decide +kernel⟩, List.mem_of_getElem? (i := 434) (by decide +kernel), List.mem_of_getElem? (i := 558) (by decide +kernel), List.mem_of_getElem? (i := 559) (by decide +kernel)⟩
theorem lw_p21 : lw_okq (⟨"FileTreeModel", "step", "(I)I"⟩, 18) := ⟨⟨by decide +kernel, by decide +kernel⟩, List.mem_of_getElem? (i := 434) (by decide +kernel), List.mem_of_getElem? (i := 562) (by decide +kernel), List.mem_of_getElem? (i := 563) (by decide +kernel)⟩
theorem lw_p22 : lw_okq (⟨"FileTreeModel", "entry", "(I)I"⟩, 18) := ⟨⟨by decide +kernel, by decide +kernel⟩, List.mem_of_getElem? (i := 434) (by decide +kernel), List.mem_of_getElem? (i := 566) (by decide +kernel), List.mem_of_getElem? (i := 567) (by decide +kernel)⟩
theorem lw_p23 : lw_okq (⟨"FileTreeModel", "numberAt", "(II)I"⟩, 18) := ⟨⟨by decide +kernel, by decide +kernel⟩, List.mem_of_getElem? (i := 434) (by decide +kernel), List.mem_of_getElem? (i := 570) (by decide +kernel), List.mem_of_getElem? (i := 571) (by decide +kernel)⟩
theorem lw_p24 : lw_okq (⟨"FileTreeModel", "before", "(III)I"⟩, 18) := ⟨⟨by decide +kernel, by decide +kernel⟩, List.mem_of_getElem? (i := 434) (by decide +kernel), List.mem_of_getElem? (i := 578) (by decide +kernel), List.mem_of_getElem? (i := 579) (by decide +kernel)⟩
theorem lw_p25 : lw_okq (⟨"FileTreeModel", "wants", "(I)I"⟩, 18) := ⟨⟨by decide +kernel, by decide +kernel⟩, List.mem_of_getElem? (i := 434) (by decide +kernel), List.mem_of_getElem? (i := 582) (by decide +kernel), List.mem_of_getElem? (i := 583) (by decide +kernel)⟩
theorem lw_p26 : lw_okq (⟨"FileTreeModel", "vacant", "(I)I"⟩, 18) := ⟨⟨by decide +kernel, by decide +kernel⟩, List.mem_of_getElem? (i := 434) (by decide +kernel), List.mem_of_getElem? (i := 586) (by decide +kernel), List.mem_of_getElem? (i := 587) (by decide +kernel)⟩
theorem lw_p27 : lw_okq (⟨"FileTreeModel", "next", "(I)I"⟩, 18) := ⟨⟨by decide +kernel, by decide +kernel⟩, List.mem_of_getElem? (i := 434) (by decide +kernel), List.mem_of_getElem? (i := 591) (by decide +kernel), List.mem_of_getElem? (i := 592) (by decide +kernel)⟩
theorem lw_p28 : lw_okq (⟨"FileTreeModel", "left", "()I"⟩, 18) := ⟨⟨by decide +kernel, by decide +kernel⟩, List.mem_of_getElem? (i := 434) (by decide +kernel), List.mem_of_getElem? (i := 595) (by decide +kernel), List.mem_of_getElem? (i := 596) (by decide +kernel)⟩
theorem lw_p29 : lw_okq (⟨"FileTreeModel", "again", "()V"⟩, 18) := ⟨⟨by decide +kernel, by decide +kernel⟩, List.mem_of_getElem? (i := 434) (by decide +kernel), List.mem_of_getElem? (i := 600) (by decide +kernel), List.mem_of_getElem? (i := 601) (by decide +kernel)⟩
theorem lw_p30 : lw_okq (⟨"FileTreeModel", "enter", "(II)V"⟩, 18) := ⟨⟨by decide +kernel, by decide +kernel⟩, List.mem_of_getElem? (i := 434) (by decide +kernel), List.mem_of_getElem? (i := 604) (by decide +kernel), List.mem_of_getElem? (i := 605) (by decide +kernel)⟩
theorem lw_p31 : lw_okq (⟨"FileTreeModel", "isDots", "()Z"⟩, 18) := ⟨⟨by decide +kernel, by decide +kernel⟩, List.mem_of_getElem? (i := 434) (by decide +kernel), List.mem_of_getElem? (i := 616) (by decide +kernel), List.mem_of_getElem? (i := 617) (by decide +kernel)⟩
def lw_privs_2 : List (MethodName × Nat) := [(⟨"FileTreeModel", "leads", "(III)I"⟩, 18), (⟨"FileTreeModel", "begin", "(III)I"⟩, 18), (⟨"FileTreeModel", "there", "(I)Z"⟩, 18), (⟨"FileTreeModel", "named", "()Z"⟩, 18), (⟨"FileTreeModel", "slashes", "()V"⟩, 18), (⟨"FileTreeModel", "step", "(I)I"⟩, 18), (⟨"FileTreeModel", "entry", "(I)I"⟩, 18), (⟨"FileTreeModel", "numberAt", "(II)I"⟩, 18), (⟨"FileTreeModel", "before", "(III)I"⟩, 18), (⟨"FileTreeModel", "wants", "(I)I"⟩, 18), (⟨"FileTreeModel", "vacant", "(I)I"⟩, 18), (⟨"FileTreeModel", "next", "(I)I"⟩, 18), (⟨"FileTreeModel", "left", "()I"⟩, 18), (⟨"FileTreeModel", "again", "()V"⟩, 18), (⟨"FileTreeModel", "enter", "(II)V"⟩, 18), (⟨"FileTreeModel", "isDots", "()Z"⟩, 18)]
theorem lw_r2 : ∀ q ∈ lw_privs_2, lw_okq q := List.forall_mem_cons.mpr ⟨lw_p16, List.forall_mem_cons.mpr ⟨lw_p17, List.forall_mem_cons.mpr ⟨lw_p18, List.forall_mem_cons.mpr ⟨lw_p19, List.forall_mem_cons.mpr ⟨lw_p20, List.forall_mem_cons.mpr ⟨lw_p21, List.forall_mem_cons.mpr ⟨lw_p22, List.forall_mem_cons.mpr ⟨lw_p23, List.forall_mem_cons.mpr ⟨lw_p24, List.forall_mem_cons.mpr ⟨lw_p25, List.forall_mem_cons.mpr ⟨lw_p26, List.forall_mem_cons.mpr ⟨lw_p27, List.forall_mem_cons.mpr ⟨lw_p28, List.forall_mem_cons.mpr ⟨lw_p29, List.forall_mem_cons.mpr ⟨lw_p30, List.forall_mem_cons.mpr ⟨lw_p31, fun _ h => absurd h List.not_mem_nil⟩⟩⟩⟩⟩⟩⟩⟩⟩⟩⟩⟩⟩⟩⟩⟩
theorem lw_p32 : lw_okq (⟨"FileTreeModel", "isBare", "(I)Z"⟩, 18) := ⟨⟨by decide +kernel, by decide +kernel⟩, List.mem_of_getElem? (i := 434) (by decide +kernel), List.mem_of_getElem? (i := 620) (by decide +kernel), List.mem_of_getElem? (i := 621) (by decide +kernel)⟩
theorem lw_p33 : lw_okq (⟨"FileTreeModel", "erase", "(II)V"⟩, 18) := ⟨⟨by decide +kernel, by decide +kernel⟩, List.mem_of_getElem? (i := 434) (by decide +kernel), List.mem_of_getElem? (i := 624) (by decide +kernel), List.mem_of_getElem? (i := 625) (by decide +kernel)⟩
theorem lw_p34 : lw_okq (⟨"FileTreeModel", "ends", "(I)Z"⟩, 18) := ⟨⟨by decide +kernel, by decide +kernel⟩, List.mem_of_getElem? (i := 434) (by decide +kernel), List.mem_of_getElem? (i := 628) (by decide +kernel), List.mem_of_getElem? (i := 629) (by decide +kernel)⟩
theorem lw_p35 : lw_okq (⟨"FileTreeModel", "empty", "(I)V"⟩, 18) := ⟨⟨by decide +kernel, by decide +kernel⟩, List.mem_of_getElem? (i := 434) (by decide +kernel), List.mem_of_getElem? (i := 632) (by decide +kernel), List.mem_of_getElem? (i := 633) (by decide +kernel)⟩
theorem lw_p36 : lw_okq (⟨"FileTreeModel", "superByte", "(I)I"⟩, 18) := ⟨⟨by decide +kernel, by decide +kernel⟩, List.mem_of_getElem? (i := 434) (by decide +kernel), List.mem_of_getElem? (i := 680) (by decide +kernel), List.mem_of_getElem? (i := 681) (by decide +kernel)⟩
theorem lw_p37 : lw_okq (⟨"FileTreeModel", "mapByte", "(I)I"⟩, 18) := ⟨⟨by decide +kernel, by decide +kernel⟩, List.mem_of_getElem? (i := 434) (by decide +kernel), List.mem_of_getElem? (i := 687) (by decide +kernel), List.mem_of_getElem? (i := 688) (by decide +kernel)⟩
theorem lw_p38 : lw_okq (⟨"FileTreeModel", "inodeByte", "(II)I"⟩, 18) := ⟨⟨by decide +kernel, by decide +kernel⟩, List.mem_of_getElem? (i := 434) (by decide +kernel), List.mem_of_getElem? (i := 691) (by decide +kernel), List.mem_of_getElem? (i := 692) (by decide +kernel)⟩
def lw_privs_3 : List (MethodName × Nat) := [(⟨"FileTreeModel", "isBare", "(I)Z"⟩, 18), (⟨"FileTreeModel", "erase", "(II)V"⟩, 18), (⟨"FileTreeModel", "ends", "(I)Z"⟩, 18), (⟨"FileTreeModel", "empty", "(I)V"⟩, 18), (⟨"FileTreeModel", "superByte", "(I)I"⟩, 18), (⟨"FileTreeModel", "mapByte", "(I)I"⟩, 18), (⟨"FileTreeModel", "inodeByte", "(II)I"⟩, 18)]
theorem lw_r3 : ∀ q ∈ lw_privs_3, lw_okq q := List.forall_mem_cons.mpr ⟨lw_p32, List.forall_mem_cons.mpr ⟨lw_p33, List.forall_mem_cons.mpr ⟨lw_p34, List.forall_mem_cons.mpr ⟨lw_p35, List.forall_mem_cons.mpr ⟨lw_p36, List.forall_mem_cons.mpr ⟨lw_p37, List.forall_mem_cons.mpr ⟨lw_p38, fun _ h => absurd h List.not_mem_nil⟩⟩⟩⟩⟩⟩⟩
def lw_privs : List (MethodName × Nat) := lw_privs_1 ++ (lw_privs_2 ++ (lw_privs_3))
def lw_tbl : List Cond := k2_sels lw_privs ++ tables_1
theorem lw_privs_ok : ∀ q ∈ lw_privs, lw_okq q := by
  show ∀ q ∈ lw_privs_1 ++ (lw_privs_2 ++ (lw_privs_3)), lw_okq q
  exact List.forall_mem_append.mpr ⟨lw_r1, List.forall_mem_append.mpr ⟨lw_r2, lw_r3⟩⟩

/-! the words of the tables, one by one -/
theorem goodIn_sub {big ws : List Cond} (hm : ∀ w ∈ ws, w ∈ big) (h : ws.all goodWord = true) : GoodIn big ws := fun w hw => ⟨hm w hw, good_of_word (List.all_eq_true.mp h w hw)⟩
def lw_g : List Cond := lw_tbl.filter goodWord
theorem lw_good : GoodIn lw_g lw_g := fun w h => ⟨h, good_of_word (List.mem_filter.mp h).2⟩
theorem lw_gi {w : Cond} (h : w ∈ lw_tbl) (hg : goodWord w = true) : w ∈ lw_g := List.mem_filter.mpr ⟨h, hg⟩
theorem lw_gt {w : Cond} (h : w ∈ lw_g) : w ∈ lw_tbl := (List.mem_filter.mp h).1
end
section
theorem q_0 : Cond.initialized "FileTreeLaw" ∈ lw_g := lw_gi (List.mem_append_right _ (List.mem_of_getElem? (i := 0) (by decide +kernel))) rfl
theorem q_1 : Cond.initialized "FileTree" ∈ lw_g := lw_gi (List.mem_append_right _ (List.mem_of_getElem? (i := 1) (by decide +kernel))) rfl
theorem q_2 : Cond.initialized "FileTree$Directories" ∈ lw_g := lw_gi (List.mem_append_right _ (List.mem_of_getElem? (i := 2) (by decide +kernel))) rfl
theorem q_3 : Cond.initialized "FileTree$Inodes" ∈ lw_g := lw_gi (List.mem_append_right _ (List.mem_of_getElem? (i := 3) (by decide +kernel))) rfl
theorem q_4 : Cond.initialized "FileTree$Disk" ∈ lw_g := lw_gi (List.mem_append_right _ (List.mem_of_getElem? (i := 4) (by decide +kernel))) rfl
theorem q_5 : Cond.initialized "FileTree$Text" ∈ lw_g := lw_gi (List.mem_append_right _ (List.mem_of_getElem? (i := 5) (by decide +kernel))) rfl
theorem q_6 : Cond.initialized "java/lang/Integer" ∈ lw_g := lw_gi (List.mem_append_right _ (List.mem_of_getElem? (i := 6) (by decide +kernel))) rfl
theorem q_7 : Cond.initialized "FileTreeModel" ∈ lw_g := lw_gi (List.mem_append_right _ (List.mem_of_getElem? (i := 7) (by decide +kernel))) rfl
theorem q_8 : Cond.initialized "java/lang/Math" ∈ lw_g := lw_gi (List.mem_append_right _ (List.mem_of_getElem? (i := 8) (by decide +kernel))) rfl
theorem q_9 : Cond.classLink "FileTreeLaw" 7 "FileTree" ∈ lw_g := lw_gi (List.mem_append_right _ (List.mem_of_getElem? (i := 9) (by decide +kernel))) rfl
theorem q_10 : Cond.instantiable "FileTree" 5 ∈ lw_g := lw_gi (List.mem_append_right _ (List.mem_of_getElem? (i := 10) (by decide +kernel))) rfl
theorem q_11 : Cond.methodLink "FileTreeLaw" 9 ⟨"FileTree", "<init>", "()V"⟩ ∈ lw_g := lw_gi (List.mem_append_right _ (List.mem_of_getElem? (i := 11) (by decide +kernel))) rfl
theorem q_12 : Cond.instanceMethod ⟨"FileTree", "<init>", "()V"⟩ ∈ lw_g := lw_gi (List.mem_append_right _ (List.mem_of_getElem? (i := 12) (by decide +kernel))) rfl
theorem q_13 : Cond.code ⟨"FileTree", "<init>", "()V"⟩ prog_1_method_1_code 1 (Option.none : Option Jvm.ClassFile.FieldType) ∈ lw_g := lw_gi (List.mem_append_right _ (List.mem_of_getElem? (i := 13) (by decide +kernel))) rfl
theorem q_14 : Cond.methodLink "FileTree" 3 ⟨"java/lang/Object", "<init>", "()V"⟩ ∈ lw_g := lw_gi (List.mem_append_right _ (List.mem_of_getElem? (i := 14) (by decide +kernel))) rfl
theorem q_15 : Cond.instanceMethod ⟨"java/lang/Object", "<init>", "()V"⟩ ∈ lw_g := lw_gi (List.mem_append_right _ (List.mem_of_getElem? (i := 15) (by decide +kernel))) rfl
theorem q_16 : Cond.code ⟨"java/lang/Object", "<init>", "()V"⟩ object_method_1_code 1 (Option.none : Option Jvm.ClassFile.FieldType) ∈ lw_g := lw_gi (List.mem_append_right _ (List.mem_of_getElem? (i := 16) (by decide +kernel))) rfl
theorem q_17 : Cond.classLink "FileTree" 9 "FileTree$Directories" ∈ lw_g := lw_gi (List.mem_append_right _ (List.mem_of_getElem? (i := 17) (by decide +kernel))) rfl
theorem q_18 : Cond.instantiable "FileTree$Directories" 2 ∈ lw_g := lw_gi (List.mem_append_right _ (List.mem_of_getElem? (i := 18) (by decide +kernel))) rfl
theorem q_19 : Cond.methodLinkNest "FileTree" 11 ⟨"FileTree$Directories", "<init>", "()V"⟩ "FileTree" ∈ lw_tbl := List.mem_append_right _ (List.mem_of_getElem? (i := 19) (by decide +kernel))
theorem q_20 : Cond.instanceMethod ⟨"FileTree$Directories", "<init>", "()V"⟩ ∈ lw_g := lw_gi (List.mem_append_right _ (List.mem_of_getElem? (i := 20) (by decide +kernel))) rfl
theorem q_21 : Cond.code ⟨"FileTree$Directories", "<init>", "()V"⟩ prog_2_method_1_code 1 (Option.none : Option Jvm.ClassFile.FieldType) ∈ lw_g := lw_gi (List.mem_append_right _ (List.mem_of_getElem? (i := 21) (by decide +kernel))) rfl
theorem q_22 : Cond.methodLink "FileTree$Directories" 3 ⟨"java/lang/Object", "<init>", "()V"⟩ ∈ lw_g := lw_gi (List.mem_append_right _ (List.mem_of_getElem? (i := 22) (by decide +kernel))) rfl
theorem q_23 : Cond.classLink "FileTree$Directories" 9 "FileTree$Inodes" ∈ lw_g := lw_gi (List.mem_append_right _ (List.mem_of_getElem? (i := 23) (by decide +kernel))) rfl
theorem q_24 : Cond.instantiable "FileTree$Inodes" 2 ∈ lw_g := lw_gi (List.mem_append_right _ (List.mem_of_getElem? (i := 24) (by decide +kernel))) rfl
theorem q_25 : Cond.methodLinkNest "FileTree$Directories" 11 ⟨"FileTree$Inodes", "<init>", "()V"⟩ "FileTree" ∈ lw_tbl := List.mem_append_right _ (List.mem_of_getElem? (i := 25) (by decide +kernel))
theorem q_26 : Cond.instanceMethod ⟨"FileTree$Inodes", "<init>", "()V"⟩ ∈ lw_g := lw_gi (List.mem_append_right _ (List.mem_of_getElem? (i := 26) (by decide +kernel))) rfl
theorem q_27 : Cond.code ⟨"FileTree$Inodes", "<init>", "()V"⟩ prog_4_method_1_code 1 (Option.none : Option Jvm.ClassFile.FieldType) ∈ lw_g := lw_gi (List.mem_append_right _ (List.mem_of_getElem? (i := 27) (by decide +kernel))) rfl
theorem q_28 : Cond.methodLink "FileTree$Inodes" 5 ⟨"java/lang/Object", "<init>", "()V"⟩ ∈ lw_g := lw_gi (List.mem_append_right _ (List.mem_of_getElem? (i := 28) (by decide +kernel))) rfl
theorem q_29 : Cond.classLink "FileTree$Inodes" 11 "FileTree$Disk" ∈ lw_g := lw_gi (List.mem_append_right _ (List.mem_of_getElem? (i := 29) (by decide +kernel))) rfl
theorem q_30 : Cond.instantiable "FileTree$Disk" 1 ∈ lw_g := lw_gi (List.mem_append_right _ (List.mem_of_getElem? (i := 30) (by decide +kernel))) rfl
theorem q_31 : Cond.methodLinkNest "FileTree$Inodes" 13 ⟨"FileTree$Disk", "<init>", "()V"⟩ "FileTree" ∈ lw_tbl := List.mem_append_right _ (List.mem_of_getElem? (i := 31) (by decide +kernel))
theorem q_32 : Cond.instanceMethod ⟨"FileTree$Disk", "<init>", "()V"⟩ ∈ lw_g := lw_gi (List.mem_append_right _ (List.mem_of_getElem? (i := 32) (by decide +kernel))) rfl
theorem q_33 : Cond.code ⟨"FileTree$Disk", "<init>", "()V"⟩ prog_3_method_1_code 1 (Option.none : Option Jvm.ClassFile.FieldType) ∈ lw_g := lw_gi (List.mem_append_right _ (List.mem_of_getElem? (i := 33) (by decide +kernel))) rfl
theorem q_34 : Cond.methodLink "FileTree$Disk" 3 ⟨"java/lang/Object", "<init>", "()V"⟩ ∈ lw_g := lw_gi (List.mem_append_right _ (List.mem_of_getElem? (i := 34) (by decide +kernel))) rfl
theorem q_35 : Cond.constant "FileTree$Disk" 9 131072 ∈ lw_g := lw_gi (List.mem_append_right _ (List.mem_of_getElem? (i := 35) (by decide +kernel))) rfl
theorem q_36 : Cond.fieldLink "FileTree$Disk" 10 "FileTree$Disk" "words" "[I" ∈ lw_g := lw_gi (List.mem_append_right _ (List.mem_of_getElem? (i := 36) (by decide +kernel))) rfl
theorem q_40 : Cond.arrayClass (Jvm.ClassFile.FieldType.int) ∈ lw_g := lw_gi (List.mem_append_right _ (List.mem_of_getElem? (i := 40) (by decide +kernel))) rfl
theorem q_41 : Cond.fieldLink "FileTree$Inodes" 14 "FileTree$Inodes" "disk" "LFileTree$Disk;" ∈ lw_g := lw_gi (List.mem_append_right _ (List.mem_of_getElem? (i := 41) (by decide +kernel))) rfl
theorem q_42 : Cond.fieldLink "FileTree$Directories" 18 "FileTree$Inodes" "disk" "LFileTree$Disk;" ∈ lw_g := lw_gi (List.mem_append_right _ (List.mem_of_getElem? (i := 42) (by decide +kernel))) rfl
theorem q_43 : Cond.fieldLink "FileTree" 21 "FileTree$Inodes" "disk" "LFileTree$Disk;" ∈ lw_g := lw_gi (List.mem_append_right _ (List.mem_of_getElem? (i := 43) (by decide +kernel))) rfl
theorem q_44 : Cond.fieldLink "FileTree$Inodes" 18 "FileTree$Inodes" "held" "[I" ∈ lw_g := lw_gi (List.mem_append_right _ (List.mem_of_getElem? (i := 44) (by decide +kernel))) rfl
theorem q_50 : Cond.fieldLink "FileTree$Directories" 12 "FileTree$Directories" "inodes" "LFileTree$Inodes;" ∈ lw_g := lw_gi (List.mem_append_right _ (List.mem_of_getElem? (i := 50) (by decide +kernel))) rfl
theorem q_51 : Cond.fieldLink "FileTree" 16 "FileTree$Directories" "inodes" "LFileTree$Inodes;" ∈ lw_g := lw_gi (List.mem_append_right _ (List.mem_of_getElem? (i := 51) (by decide +kernel))) rfl
theorem q_52 : Cond.fieldLink "FileTree$Directories" 22 "FileTree$Directories" "disk" "LFileTree$Disk;" ∈ lw_g := lw_gi (List.mem_append_right _ (List.mem_of_getElem? (i := 52) (by decide +kernel))) rfl
theorem q_58 : Cond.classLink "FileTree" 28 "FileTree$Text" ∈ lw_g := lw_gi (List.mem_append_right _ (List.mem_of_getElem? (i := 58) (by decide +kernel))) rfl
theorem q_59 : Cond.instantiable "FileTree$Text" 4 ∈ lw_g := lw_gi (List.mem_append_right _ (List.mem_of_getElem? (i := 59) (by decide +kernel))) rfl
theorem q_60 : Cond.methodLinkNest "FileTree" 30 ⟨"FileTree$Text", "<init>", "()V"⟩ "FileTree" ∈ lw_tbl := List.mem_append_right _ (List.mem_of_getElem? (i := 60) (by decide +kernel))
theorem q_61 : Cond.instanceMethod ⟨"FileTree$Text", "<init>", "()V"⟩ ∈ lw_g := lw_gi (List.mem_append_right _ (List.mem_of_getElem? (i := 61) (by decide +kernel))) rfl
theorem q_62 : Cond.code ⟨"FileTree$Text", "<init>", "()V"⟩ prog_5_method_1_code 1 (Option.none : Option Jvm.ClassFile.FieldType) ∈ lw_g := lw_gi (List.mem_append_right _ (List.mem_of_getElem? (i := 62) (by decide +kernel))) rfl
theorem q_63 : Cond.methodLink "FileTree$Text" 3 ⟨"java/lang/Object", "<init>", "()V"⟩ ∈ lw_g := lw_gi (List.mem_append_right _ (List.mem_of_getElem? (i := 63) (by decide +kernel))) rfl
theorem q_64 : Cond.fieldLink "FileTree$Text" 9 "FileTree$Text" "bytes" "[B" ∈ lw_g := lw_gi (List.mem_append_right _ (List.mem_of_getElem? (i := 64) (by decide +kernel))) rfl
theorem q_65 : Cond.fieldLink "FileTree$Text" 15 "FileTree$Text" "name" "[B" ∈ lw_g := lw_gi (List.mem_append_right _ (List.mem_of_getElem? (i := 65) (by decide +kernel))) rfl
theorem q_66 : Cond.fieldLink "FileTree" 177 "FileTree$Text" "name" "[B" ∈ lw_g := lw_gi (List.mem_append_right _ (List.mem_of_getElem? (i := 66) (by decide +kernel))) rfl
theorem q_67 : Cond.fieldLink "FileTree$Text" 18 "FileTree$Text" "last" "[B" ∈ lw_g := lw_gi (List.mem_append_right _ (List.mem_of_getElem? (i := 67) (by decide +kernel))) rfl
theorem q_68 : Cond.fieldLink "FileTree" 71 "FileTree$Text" "last" "[B" ∈ lw_g := lw_gi (List.mem_append_right _ (List.mem_of_getElem? (i := 68) (by decide +kernel))) rfl
theorem q_69 : Cond.fieldLink "FileTree$Text" 23 "FileTree$Text" "length" "I" ∈ lw_g := lw_gi (List.mem_append_right _ (List.mem_of_getElem? (i := 69) (by decide +kernel))) rfl
theorem q_70 : Cond.fieldLink "FileTree" 56 "FileTree$Text" "length" "I" ∈ lw_g := lw_gi (List.mem_append_right _ (List.mem_of_getElem? (i := 70) (by decide +kernel))) rfl
theorem q_80 : Cond.arrayClass (Jvm.ClassFile.FieldType.byte) ∈ lw_g := lw_gi (List.mem_append_right _ (List.mem_of_getElem? (i := 80) (by decide +kernel))) rfl
theorem q_81 : Cond.methodLink "FileTree" 39 ⟨"FileTree$Disk", "format", "()V"⟩ ∈ lw_g := lw_gi (List.mem_append_right _ (List.mem_of_getElem? (i := 81) (by decide +kernel))) rfl
theorem q_82 : Cond.instanceMethod ⟨"FileTree$Disk", "format", "()V"⟩ ∈ lw_g := lw_gi (List.mem_append_right _ (List.mem_of_getElem? (i := 82) (by decide +kernel))) rfl
theorem q_83 : Cond.selects "FileTree$Disk" ⟨"FileTree$Disk", "format", "()V"⟩ ⟨"FileTree$Disk", "format", "()V"⟩ ∈ lw_g := lw_gi (List.mem_append_right _ (List.mem_of_getElem? (i := 83) (by decide +kernel))) rfl
theorem q_84 : Cond.code ⟨"FileTree$Disk", "format", "()V"⟩ prog_3_method_6_code 2 (Option.none : Option Jvm.ClassFile.FieldType) ∈ lw_g := lw_gi (List.mem_append_right _ (List.mem_of_getElem? (i := 84) (by decide +kernel))) rfl
theorem q_85 : Cond.fieldLinkNest "FileTree$Disk" 16 "FileTree" "SUPERBLOCK" "[I" "FileTree" ∈ lw_tbl := List.mem_append_right _ (List.mem_of_getElem? (i := 85) (by decide +kernel))
theorem q_86 : Cond.laysStatic "FileTree" "SUPERBLOCK" "[I" ∈ lw_tbl := List.mem_append_right _ (List.mem_of_getElem? (i := 86) (by decide +kernel))
theorem q_87 : Cond.methodLink "FileTree$Disk" 19 ⟨"FileTree$Disk", "setNumber", "(II)V"⟩ ∈ lw_g := lw_gi (List.mem_append_right _ (List.mem_of_getElem? (i := 87) (by decide +kernel))) rfl
theorem q_88 : Cond.instanceMethod ⟨"FileTree$Disk", "setNumber", "(II)V"⟩ ∈ lw_g := lw_gi (List.mem_append_right _ (List.mem_of_getElem? (i := 88) (by decide +kernel))) rfl
theorem q_89 : Cond.selects "FileTree$Disk" ⟨"FileTree$Disk", "setNumber", "(II)V"⟩ ⟨"FileTree$Disk", "setNumber", "(II)V"⟩ ∈ lw_g := lw_gi (List.mem_append_right _ (List.mem_of_getElem? (i := 89) (by decide +kernel))) rfl
theorem q_90 : Cond.code ⟨"FileTree$Disk", "setNumber", "(II)V"⟩ prog_3_method_3_code 4 (Option.none : Option Jvm.ClassFile.FieldType) ∈ lw_g := lw_gi (List.mem_append_right _ (List.mem_of_getElem? (i := 90) (by decide +kernel))) rfl
theorem q_91 : Cond.methodLink "FileTree$Disk" 23 ⟨"FileTree$Disk", "mark", "(IZ)V"⟩ ∈ lw_g := lw_gi (List.mem_append_right _ (List.mem_of_getElem? (i := 91) (by decide +kernel))) rfl
theorem q_93 : Cond.instanceMethod ⟨"FileTree$Disk", "mark", "(IZ)V"⟩ ∈ lw_g := lw_gi (List.mem_append_right _ (List.mem_of_getElem? (i := 93) (by decide +kernel))) rfl
theorem q_94 : Cond.code ⟨"FileTree$Disk", "mark", "(IZ)V"⟩ prog_3_method_11_code 6 (Option.none : Option Jvm.ClassFile.FieldType) ∈ lw_g := lw_gi (List.mem_append_right _ (List.mem_of_getElem? (i := 94) (by decide +kernel))) rfl
theorem q_95 : Cond.constant "FileTree$Disk" 27 37888 ∈ lw_g := lw_gi (List.mem_append_right _ (List.mem_of_getElem? (i := 95) (by decide +kernel))) rfl
theorem q_96 : Cond.methodLink "FileTree$Disk" 37 ⟨"FileTree$Disk", "partAt", "(II)I"⟩ ∈ lw_g := lw_gi (List.mem_append_right _ (List.mem_of_getElem? (i := 96) (by decide +kernel))) rfl
theorem q_97 : Cond.instanceMethod ⟨"FileTree$Disk", "partAt", "(II)I"⟩ ∈ lw_g := lw_gi (List.mem_append_right _ (List.mem_of_getElem? (i := 97) (by decide +kernel))) rfl
theorem q_98 : Cond.selects "FileTree$Disk" ⟨"FileTree$Disk", "partAt", "(II)I"⟩ ⟨"FileTree$Disk", "partAt", "(II)I"⟩ ∈ lw_g := lw_gi (List.mem_append_right _ (List.mem_of_getElem? (i := 98) (by decide +kernel))) rfl
theorem q_99 : Cond.code ⟨"FileTree$Disk", "partAt", "(II)I"⟩ prog_3_method_4_code 5 (Option.some Jvm.ClassFile.FieldType.int) ∈ lw_g := lw_gi (List.mem_append_right _ (List.mem_of_getElem? (i := 99) (by decide +kernel))) rfl
theorem q_100 : Cond.methodLink "FileTree$Disk" 44 ⟨"FileTree$Disk", "setPart", "(III)V"⟩ ∈ lw_g := lw_gi (List.mem_append_right _ (List.mem_of_getElem? (i := 100) (by decide +kernel))) rfl
theorem q_101 : Cond.instanceMethod ⟨"FileTree$Disk", "setPart", "(III)V"⟩ ∈ lw_g := lw_gi (List.mem_append_right _ (List.mem_of_getElem? (i := 101) (by decide +kernel))) rfl
theorem q_102 : Cond.selects "FileTree$Disk" ⟨"FileTree$Disk", "setPart", "(III)V"⟩ ⟨"FileTree$Disk", "setPart", "(III)V"⟩ ∈ lw_g := lw_gi (List.mem_append_right _ (List.mem_of_getElem? (i := 102) (by decide +kernel))) rfl
theorem q_103 : Cond.code ⟨"FileTree$Disk", "setPart", "(III)V"⟩ prog_3_method_5_code 6 (Option.none : Option Jvm.ClassFile.FieldType) ∈ lw_g := lw_gi (List.mem_append_right _ (List.mem_of_getElem? (i := 103) (by decide +kernel))) rfl
theorem q_104 : Cond.methodLink "FileTree" 44 ⟨"FileTree$Inodes", "make", "(IIII)V"⟩ ∈ lw_g := lw_gi (List.mem_append_right _ (List.mem_of_getElem? (i := 104) (by decide +kernel))) rfl
theorem q_105 : Cond.instanceMethod ⟨"FileTree$Inodes", "make", "(IIII)V"⟩ ∈ lw_g := lw_gi (List.mem_append_right _ (List.mem_of_getElem? (i := 105) (by decide +kernel))) rfl
theorem q_106 : Cond.selects "FileTree$Inodes" ⟨"FileTree$Inodes", "make", "(IIII)V"⟩ ⟨"FileTree$Inodes", "make", "(IIII)V"⟩ ∈ lw_g := lw_gi (List.mem_append_right _ (List.mem_of_getElem? (i := 106) (by decide +kernel))) rfl
theorem q_107 : Cond.code ⟨"FileTree$Inodes", "make", "(IIII)V"⟩ prog_4_method_14_code 6 (Option.none : Option Jvm.ClassFile.FieldType) ∈ lw_g := lw_gi (List.mem_append_right _ (List.mem_of_getElem? (i := 107) (by decide +kernel))) rfl
theorem q_108 : Cond.methodLink "FileTree$Inodes" 26 ⟨"FileTree$Inodes", "isInode", "(I)Z"⟩ ∈ lw_g := lw_gi (List.mem_append_right _ (List.mem_of_getElem? (i := 108) (by decide +kernel))) rfl
theorem q_109 : Cond.instanceMethod ⟨"FileTree$Inodes", "isInode", "(I)Z"⟩ ∈ lw_g := lw_gi (List.mem_append_right _ (List.mem_of_getElem? (i := 109) (by decide +kernel))) rfl
theorem q_110 : Cond.selects "FileTree$Inodes" ⟨"FileTree$Inodes", "isInode", "(I)Z"⟩ ⟨"FileTree$Inodes", "isInode", "(I)Z"⟩ ∈ lw_g := lw_gi (List.mem_append_right _ (List.mem_of_getElem? (i := 110) (by decide +kernel))) rfl
theorem q_111 : Cond.code ⟨"FileTree$Inodes", "isInode", "(I)Z"⟩ prog_4_method_2_code 2 (Option.some Jvm.ClassFile.FieldType.boolean) ∈ lw_g := lw_gi (List.mem_append_right _ (List.mem_of_getElem? (i := 111) (by decide +kernel))) rfl
theorem q_112 : Cond.methodLink "FileTree$Inodes" 30 ⟨"FileTree$Inodes", "placeOf", "(I)I"⟩ ∈ lw_g := lw_gi (List.mem_append_right _ (List.mem_of_getElem? (i := 112) (by decide +kernel))) rfl
theorem q_114 : Cond.instanceMethod ⟨"FileTree$Inodes", "placeOf", "(I)I"⟩ ∈ lw_g := lw_gi (List.mem_append_right _ (List.mem_of_getElem? (i := 114) (by decide +kernel))) rfl
theorem q_115 : Cond.code ⟨"FileTree$Inodes", "placeOf", "(I)I"⟩ prog_4_method_22_code 2 (Option.some Jvm.ClassFile.FieldType.int) ∈ lw_g := lw_gi (List.mem_append_right _ (List.mem_of_getElem? (i := 115) (by decide +kernel))) rfl
theorem q_116 : Cond.constant "FileTree$Inodes" 102 33792 ∈ lw_g := lw_gi (List.mem_append_right _ (List.mem_of_getElem? (i := 116) (by decide +kernel))) rfl
theorem q_117 : Cond.constant "FileTree$Inodes" 33 65535 ∈ lw_g := lw_gi (List.mem_append_right _ (List.mem_of_getElem? (i := 117) (by decide +kernel))) rfl
theorem q_118 : Cond.methodLink "FileTree$Inodes" 44 ⟨"FileTree$Disk", "setPart", "(III)V"⟩ ∈ lw_g := lw_gi (List.mem_append_right _ (List.mem_of_getElem? (i := 118) (by decide +kernel))) rfl
theorem q_119 : Cond.methodLink "FileTree" 48 ⟨"FileTree$Directories", "begin", "(II)V"⟩ ∈ lw_g := lw_gi (List.mem_append_right _ (List.mem_of_getElem? (i := 119) (by decide +kernel))) rfl
theorem q_120 : Cond.instanceMethod ⟨"FileTree$Directories", "begin", "(II)V"⟩ ∈ lw_g := lw_gi (List.mem_append_right _ (List.mem_of_getElem? (i := 120) (by decide +kernel))) rfl
theorem q_121 : Cond.selects "FileTree$Directories" ⟨"FileTree$Directories", "begin", "(II)V"⟩ ⟨"FileTree$Directories", "begin", "(II)V"⟩ ∈ lw_g := lw_gi (List.mem_append_right _ (List.mem_of_getElem? (i := 121) (by decide +kernel))) rfl
theorem q_122 : Cond.code ⟨"FileTree$Directories", "begin", "(II)V"⟩ prog_2_method_7_code 3 (Option.none : Option Jvm.ClassFile.FieldType) ∈ lw_g := lw_gi (List.mem_append_right _ (List.mem_of_getElem? (i := 122) (by decide +kernel))) rfl
theorem q_123 : Cond.fieldLinkNest "FileTree$Directories" 77 "FileTree" "ITSELF" "[B" "FileTree" ∈ lw_tbl := List.mem_append_right _ (List.mem_of_getElem? (i := 123) (by decide +kernel))
theorem q_124 : Cond.laysStatic "FileTree" "ITSELF" "[B" ∈ lw_tbl := List.mem_append_right _ (List.mem_of_getElem? (i := 124) (by decide +kernel))
theorem q_125 : Cond.methodLink "FileTree$Directories" 81 ⟨"FileTree$Directories", "addEntry", "(I[BI)V"⟩ ∈ lw_g := lw_gi (List.mem_append_right _ (List.mem_of_getElem? (i := 125) (by decide +kernel))) rfl
theorem q_126 : Cond.instanceMethod ⟨"FileTree$Directories", "addEntry", "(I[BI)V"⟩ ∈ lw_g := lw_gi (List.mem_append_right _ (List.mem_of_getElem? (i := 126) (by decide +kernel))) rfl
theorem q_127 : Cond.selects "FileTree$Directories" ⟨"FileTree$Directories", "addEntry", "(I[BI)V"⟩ ⟨"FileTree$Directories", "addEntry", "(I[BI)V"⟩ ∈ lw_g := lw_gi (List.mem_append_right _ (List.mem_of_getElem? (i := 127) (by decide +kernel))) rfl
theorem q_128 : Cond.code ⟨"FileTree$Directories", "addEntry", "(I[BI)V"⟩ prog_2_method_5_code 6 (Option.none : Option Jvm.ClassFile.FieldType) ∈ lw_g := lw_gi (List.mem_append_right _ (List.mem_of_getElem? (i := 128) (by decide +kernel))) rfl
theorem q_129 : Cond.methodLink "FileTree$Directories" 47 ⟨"FileTree$Directories", "freeEntry", "(I)I"⟩ ∈ lw_g := lw_gi (List.mem_append_right _ (List.mem_of_getElem? (i := 129) (by decide +kernel))) rfl
theorem q_131 : Cond.instanceMethod ⟨"FileTree$Directories", "freeEntry", "(I)I"⟩ ∈ lw_g := lw_gi (List.mem_append_right _ (List.mem_of_getElem? (i := 131) (by decide +kernel))) rfl
theorem q_132 : Cond.code ⟨"FileTree$Directories", "freeEntry", "(I)I"⟩ prog_2_method_10_code 5 (Option.some Jvm.ClassFile.FieldType.int) ∈ lw_g := lw_gi (List.mem_append_right _ (List.mem_of_getElem? (i := 132) (by decide +kernel))) rfl
theorem q_133 : Cond.methodLink "FileTree$Directories" 23 ⟨"FileTree$Directories", "sizeOf", "(I)I"⟩ ∈ lw_g := lw_gi (List.mem_append_right _ (List.mem_of_getElem? (i := 133) (by decide +kernel))) rfl
theorem q_135 : Cond.instanceMethod ⟨"FileTree$Directories", "sizeOf", "(I)I"⟩ ∈ lw_g := lw_gi (List.mem_append_right _ (List.mem_of_getElem? (i := 135) (by decide +kernel))) rfl
theorem q_136 : Cond.code ⟨"FileTree$Directories", "sizeOf", "(I)I"⟩ prog_2_method_9_code 2 (Option.some Jvm.ClassFile.FieldType.int) ∈ lw_g := lw_gi (List.mem_append_right _ (List.mem_of_getElem? (i := 136) (by decide +kernel))) rfl
theorem q_137 : Cond.methodLink "FileTree$Directories" 41 ⟨"FileTree$Inodes", "kindOf", "(I)I"⟩ ∈ lw_g := lw_gi (List.mem_append_right _ (List.mem_of_getElem? (i := 137) (by decide +kernel))) rfl
theorem q_138 : Cond.instanceMethod ⟨"FileTree$Inodes", "kindOf", "(I)I"⟩ ∈ lw_g := lw_gi (List.mem_append_right _ (List.mem_of_getElem? (i := 138) (by decide +kernel))) rfl
theorem q_139 : Cond.selects "FileTree$Inodes" ⟨"FileTree$Inodes", "kindOf", "(I)I"⟩ ⟨"FileTree$Inodes", "kindOf", "(I)I"⟩ ∈ lw_g := lw_gi (List.mem_append_right _ (List.mem_of_getElem? (i := 139) (by decide +kernel))) rfl
theorem q_140 : Cond.code ⟨"FileTree$Inodes", "kindOf", "(I)I"⟩ prog_4_method_4_code 2 (Option.some Jvm.ClassFile.FieldType.int) ∈ lw_g := lw_gi (List.mem_append_right _ (List.mem_of_getElem? (i := 140) (by decide +kernel))) rfl
theorem q_141 : Cond.methodLink "FileTree$Inodes" 34 ⟨"FileTree$Disk", "partAt", "(II)I"⟩ ∈ lw_g := lw_gi (List.mem_append_right _ (List.mem_of_getElem? (i := 141) (by decide +kernel))) rfl
theorem q_142 : Cond.methodLink "FileTree$Directories" 95 ⟨"FileTree$Inodes", "sizeOf", "(I)I"⟩ ∈ lw_g := lw_gi (List.mem_append_right _ (List.mem_of_getElem? (i := 142) (by decide +kernel))) rfl
theorem q_143 : Cond.instanceMethod ⟨"FileTree$Inodes", "sizeOf", "(I)I"⟩ ∈ lw_g := lw_gi (List.mem_append_right _ (List.mem_of_getElem? (i := 143) (by decide +kernel))) rfl
theorem q_144 : Cond.selects "FileTree$Inodes" ⟨"FileTree$Inodes", "sizeOf", "(I)I"⟩ ⟨"FileTree$Inodes", "sizeOf", "(I)I"⟩ ∈ lw_g := lw_gi (List.mem_append_right _ (List.mem_of_getElem? (i := 144) (by decide +kernel))) rfl
theorem q_145 : Cond.code ⟨"FileTree$Inodes", "sizeOf", "(I)I"⟩ prog_4_method_8_code 2 (Option.some Jvm.ClassFile.FieldType.int) ∈ lw_g := lw_gi (List.mem_append_right _ (List.mem_of_getElem? (i := 145) (by decide +kernel))) rfl
theorem q_146 : Cond.methodLink "FileTree$Inodes" 38 ⟨"FileTree$Disk", "numberAt", "(I)I"⟩ ∈ lw_g := lw_gi (List.mem_append_right _ (List.mem_of_getElem? (i := 146) (by decide +kernel))) rfl
theorem q_147 : Cond.instanceMethod ⟨"FileTree$Disk", "numberAt", "(I)I"⟩ ∈ lw_g := lw_gi (List.mem_append_right _ (List.mem_of_getElem? (i := 147) (by decide +kernel))) rfl
theorem q_148 : Cond.selects "FileTree$Disk" ⟨"FileTree$Disk", "numberAt", "(I)I"⟩ ⟨"FileTree$Disk", "numberAt", "(I)I"⟩ ∈ lw_g := lw_gi (List.mem_append_right _ (List.mem_of_getElem? (i := 148) (by decide +kernel))) rfl
theorem q_149 : Cond.code ⟨"FileTree$Disk", "numberAt", "(I)I"⟩ prog_3_method_2_code 3 (Option.some Jvm.ClassFile.FieldType.int) ∈ lw_g := lw_gi (List.mem_append_right _ (List.mem_of_getElem? (i := 149) (by decide +kernel))) rfl
theorem q_150 : Cond.methodLink "FileTree$Directories" 27 ⟨"FileTree$Inodes", "placeOfByte", "(II)I"⟩ ∈ lw_g := lw_gi (List.mem_append_right _ (List.mem_of_getElem? (i := 150) (by decide +kernel))) rfl
theorem q_151 : Cond.instanceMethod ⟨"FileTree$Inodes", "placeOfByte", "(II)I"⟩ ∈ lw_g := lw_gi (List.mem_append_right _ (List.mem_of_getElem? (i := 151) (by decide +kernel))) rfl
theorem q_152 : Cond.selects "FileTree$Inodes" ⟨"FileTree$Inodes", "placeOfByte", "(II)I"⟩ ⟨"FileTree$Inodes", "placeOfByte", "(II)I"⟩ ∈ lw_g := lw_gi (List.mem_append_right _ (List.mem_of_getElem? (i := 152) (by decide +kernel))) rfl
theorem q_153 : Cond.code ⟨"FileTree$Inodes", "placeOfByte", "(II)I"⟩ prog_4_method_19_code 4 (Option.some Jvm.ClassFile.FieldType.int) ∈ lw_g := lw_gi (List.mem_append_right _ (List.mem_of_getElem? (i := 153) (by decide +kernel))) rfl
theorem q_154 : Cond.methodLink "FileTree$Inodes" 65 ⟨"FileTree$Inodes", "slotOf", "(II)I"⟩ ∈ lw_g := lw_gi (List.mem_append_right _ (List.mem_of_getElem? (i := 154) (by decide +kernel))) rfl
theorem q_156 : Cond.instanceMethod ⟨"FileTree$Inodes", "slotOf", "(II)I"⟩ ∈ lw_g := lw_gi (List.mem_append_right _ (List.mem_of_getElem? (i := 156) (by decide +kernel))) rfl
theorem q_157 : Cond.code ⟨"FileTree$Inodes", "slotOf", "(II)I"⟩ prog_4_method_23_code 4 (Option.some Jvm.ClassFile.FieldType.int) ∈ lw_g := lw_gi (List.mem_append_right _ (List.mem_of_getElem? (i := 157) (by decide +kernel))) rfl
theorem q_158 : Cond.constant "FileTree$Directories" 31 65535 ∈ lw_g := lw_gi (List.mem_append_right _ (List.mem_of_getElem? (i := 158) (by decide +kernel))) rfl
theorem q_159 : Cond.methodLink "FileTree$Directories" 32 ⟨"FileTree$Disk", "partAt", "(II)I"⟩ ∈ lw_g := lw_gi (List.mem_append_right _ (List.mem_of_getElem? (i := 159) (by decide +kernel))) rfl
theorem q_160 : Cond.methodLink "FileTree$Directories" 58 ⟨"FileTree$Inodes", "addBlock", "(II)Z"⟩ ∈ lw_g := lw_gi (List.mem_append_right _ (List.mem_of_getElem? (i := 160) (by decide +kernel))) rfl
theorem q_161 : Cond.instanceMethod ⟨"FileTree$Inodes", "addBlock", "(II)Z"⟩ ∈ lw_g := lw_gi (List.mem_append_right _ (List.mem_of_getElem? (i := 161) (by decide +kernel))) rfl
theorem q_162 : Cond.selects "FileTree$Inodes" ⟨"FileTree$Inodes", "addBlock", "(II)Z"⟩ ⟨"FileTree$Inodes", "addBlock", "(II)Z"⟩ ∈ lw_g := lw_gi (List.mem_append_right _ (List.mem_of_getElem? (i := 162) (by decide +kernel))) rfl
theorem q_163 : Cond.code ⟨"FileTree$Inodes", "addBlock", "(II)Z"⟩ prog_4_method_18_code 3 (Option.some Jvm.ClassFile.FieldType.boolean) ∈ lw_g := lw_gi (List.mem_append_right _ (List.mem_of_getElem? (i := 163) (by decide +kernel))) rfl
theorem q_164 : Cond.methodLink "FileTree$Inodes" 71 ⟨"FileTree$Inodes", "blocksToAdd", "(I)I"⟩ ∈ lw_g := lw_gi (List.mem_append_right _ (List.mem_of_getElem? (i := 164) (by decide +kernel))) rfl
theorem q_165 : Cond.instanceMethod ⟨"FileTree$Inodes", "blocksToAdd", "(I)I"⟩ ∈ lw_g := lw_gi (List.mem_append_right _ (List.mem_of_getElem? (i := 165) (by decide +kernel))) rfl
theorem q_166 : Cond.selects "FileTree$Inodes" ⟨"FileTree$Inodes", "blocksToAdd", "(I)I"⟩ ⟨"FileTree$Inodes", "blocksToAdd", "(I)I"⟩ ∈ lw_g := lw_gi (List.mem_append_right _ (List.mem_of_getElem? (i := 166) (by decide +kernel))) rfl
theorem q_167 : Cond.code ⟨"FileTree$Inodes", "blocksToAdd", "(I)I"⟩ prog_4_method_17_code 2 (Option.some Jvm.ClassFile.FieldType.int) ∈ lw_g := lw_gi (List.mem_append_right _ (List.mem_of_getElem? (i := 167) (by decide +kernel))) rfl
theorem q_168 : Cond.methodLink "FileTree$Inodes" 74 ⟨"FileTree$Disk", "freeBlocks", "()I"⟩ ∈ lw_g := lw_gi (List.mem_append_right _ (List.mem_of_getElem? (i := 168) (by decide +kernel))) rfl
theorem q_169 : Cond.instanceMethod ⟨"FileTree$Disk", "freeBlocks", "()I"⟩ ∈ lw_g := lw_gi (List.mem_append_right _ (List.mem_of_getElem? (i := 169) (by decide +kernel))) rfl
theorem q_170 : Cond.selects "FileTree$Disk" ⟨"FileTree$Disk", "freeBlocks", "()I"⟩ ⟨"FileTree$Disk", "freeBlocks", "()I"⟩ ∈ lw_g := lw_gi (List.mem_append_right _ (List.mem_of_getElem? (i := 170) (by decide +kernel))) rfl
theorem q_171 : Cond.code ⟨"FileTree$Disk", "freeBlocks", "()I"⟩ prog_3_method_7_code 3 (Option.some Jvm.ClassFile.FieldType.int) ∈ lw_g := lw_gi (List.mem_append_right _ (List.mem_of_getElem? (i := 171) (by decide +kernel))) rfl
theorem q_172 : Cond.methodLink "FileTree$Disk" 28 ⟨"FileTree$Disk", "numberAt", "(I)I"⟩ ∈ lw_g := lw_gi (List.mem_append_right _ (List.mem_of_getElem? (i := 172) (by decide +kernel))) rfl
theorem q_173 : Cond.methodLink "FileTree$Disk" 32 ⟨"java/lang/Integer", "bitCount", "(I)I"⟩ ∈ lw_g := lw_gi (List.mem_append_right _ (List.mem_of_getElem? (i := 173) (by decide +kernel))) rfl
theorem q_174 : Cond.static ⟨"java/lang/Integer", "bitCount", "(I)I"⟩ ∈ lw_g := lw_gi (List.mem_append_right _ (List.mem_of_getElem? (i := 174) (by decide +kernel))) rfl
theorem q_175 : Cond.code ⟨"java/lang/Integer", "bitCount", "(I)I"⟩ prog_8_method_49_code 1 (Option.some Jvm.ClassFile.FieldType.int) ∈ lw_g := lw_gi (List.mem_append_right _ (List.mem_of_getElem? (i := 175) (by decide +kernel))) rfl
theorem q_176 : Cond.constant "java/lang/Integer" 265 1431655765 ∈ lw_g := lw_gi (List.mem_append_right _ (List.mem_of_getElem? (i := 176) (by decide +kernel))) rfl
theorem q_177 : Cond.constant "java/lang/Integer" 266 858993459 ∈ lw_g := lw_gi (List.mem_append_right _ (List.mem_of_getElem? (i := 177) (by decide +kernel))) rfl
theorem q_178 : Cond.constant "java/lang/Integer" 267 252645135 ∈ lw_g := lw_gi (List.mem_append_right _ (List.mem_of_getElem? (i := 178) (by decide +kernel))) rfl
theorem q_179 : Cond.methodLink "FileTree$Inodes" 78 ⟨"FileTree$Disk", "takeBlock", "()I"⟩ ∈ lw_g := lw_gi (List.mem_append_right _ (List.mem_of_getElem? (i := 179) (by decide +kernel))) rfl
theorem q_180 : Cond.instanceMethod ⟨"FileTree$Disk", "takeBlock", "()I"⟩ ∈ lw_g := lw_gi (List.mem_append_right _ (List.mem_of_getElem? (i := 180) (by decide +kernel))) rfl
theorem q_181 : Cond.selects "FileTree$Disk" ⟨"FileTree$Disk", "takeBlock", "()I"⟩ ⟨"FileTree$Disk", "takeBlock", "()I"⟩ ∈ lw_g := lw_gi (List.mem_append_right _ (List.mem_of_getElem? (i := 181) (by decide +kernel))) rfl
theorem q_182 : Cond.code ⟨"FileTree$Disk", "takeBlock", "()I"⟩ prog_3_method_8_code 3 (Option.some Jvm.ClassFile.FieldType.int) ∈ lw_g := lw_gi (List.mem_append_right _ (List.mem_of_getElem? (i := 182) (by decide +kernel))) rfl
theorem q_183 : Cond.methodLink "FileTree$Disk" 41 ⟨"FileTree$Disk", "wipe", "(II)V"⟩ ∈ lw_g := lw_gi (List.mem_append_right _ (List.mem_of_getElem? (i := 183) (by decide +kernel))) rfl
theorem q_184 : Cond.instanceMethod ⟨"FileTree$Disk", "wipe", "(II)V"⟩ ∈ lw_g := lw_gi (List.mem_append_right _ (List.mem_of_getElem? (i := 184) (by decide +kernel))) rfl
theorem q_185 : Cond.selects "FileTree$Disk" ⟨"FileTree$Disk", "wipe", "(II)V"⟩ ⟨"FileTree$Disk", "wipe", "(II)V"⟩ ∈ lw_g := lw_gi (List.mem_append_right _ (List.mem_of_getElem? (i := 185) (by decide +kernel))) rfl
theorem q_186 : Cond.code ⟨"FileTree$Disk", "wipe", "(II)V"⟩ prog_3_method_10_code 4 (Option.none : Option Jvm.ClassFile.FieldType) ∈ lw_g := lw_gi (List.mem_append_right _ (List.mem_of_getElem? (i := 186) (by decide +kernel))) rfl
theorem q_187 : Cond.methodLink "FileTree$Inodes" 48 ⟨"FileTree$Disk", "setNumber", "(II)V"⟩ ∈ lw_g := lw_gi (List.mem_append_right _ (List.mem_of_getElem? (i := 187) (by decide +kernel))) rfl
theorem q_188 : Cond.methodLink "FileTree$Directories" 62 ⟨"FileTree$Inodes", "setSize", "(II)V"⟩ ∈ lw_g := lw_gi (List.mem_append_right _ (List.mem_of_getElem? (i := 188) (by decide +kernel))) rfl
theorem q_189 : Cond.instanceMethod ⟨"FileTree$Inodes", "setSize", "(II)V"⟩ ∈ lw_g := lw_gi (List.mem_append_right _ (List.mem_of_getElem? (i := 189) (by decide +kernel))) rfl
theorem q_190 : Cond.selects "FileTree$Inodes" ⟨"FileTree$Inodes", "setSize", "(II)V"⟩ ⟨"FileTree$Inodes", "setSize", "(II)V"⟩ ∈ lw_g := lw_gi (List.mem_append_right _ (List.mem_of_getElem? (i := 190) (by decide +kernel))) rfl
theorem q_191 : Cond.code ⟨"FileTree$Inodes", "setSize", "(II)V"⟩ prog_4_method_11_code 3 (Option.none : Option Jvm.ClassFile.FieldType) ∈ lw_g := lw_gi (List.mem_append_right _ (List.mem_of_getElem? (i := 191) (by decide +kernel))) rfl
theorem q_192 : Cond.methodLink "FileTree$Directories" 66 ⟨"FileTree$Disk", "setPart", "(III)V"⟩ ∈ lw_g := lw_gi (List.mem_append_right _ (List.mem_of_getElem? (i := 192) (by decide +kernel))) rfl
theorem q_193 : Cond.methodLink "FileTree$Directories" 70 ⟨"FileTree$Directories", "nameByte", "([BI)I"⟩ ∈ lw_g := lw_gi (List.mem_append_right _ (List.mem_of_getElem? (i := 193) (by decide +kernel))) rfl
theorem q_195 : Cond.instanceMethod ⟨"FileTree$Directories", "nameByte", "([BI)I"⟩ ∈ lw_g := lw_gi (List.mem_append_right _ (List.mem_of_getElem? (i := 195) (by decide +kernel))) rfl
theorem q_196 : Cond.code ⟨"FileTree$Directories", "nameByte", "([BI)I"⟩ prog_2_method_12_code 3 (Option.some Jvm.ClassFile.FieldType.int) ∈ lw_g := lw_gi (List.mem_append_right _ (List.mem_of_getElem? (i := 196) (by decide +kernel))) rfl
theorem q_197 : Cond.fieldLinkNest "FileTree$Directories" 85 "FileTree" "ABOVE" "[B" "FileTree" ∈ lw_tbl := List.mem_append_right _ (List.mem_of_getElem? (i := 197) (by decide +kernel))
theorem q_198 : Cond.laysStatic "FileTree" "ABOVE" "[B" ∈ lw_tbl := List.mem_append_right _ (List.mem_of_getElem? (i := 198) (by decide +kernel))
theorem q_199 : Cond.methodLink "FileTree$Directories" 88 ⟨"FileTree$Inodes", "addLinks", "(II)V"⟩ ∈ lw_g := lw_gi (List.mem_append_right _ (List.mem_of_getElem? (i := 199) (by decide +kernel))) rfl
theorem q_200 : Cond.instanceMethod ⟨"FileTree$Inodes", "addLinks", "(II)V"⟩ ∈ lw_g := lw_gi (List.mem_append_right _ (List.mem_of_getElem? (i := 200) (by decide +kernel))) rfl
theorem q_201 : Cond.selects "FileTree$Inodes" ⟨"FileTree$Inodes", "addLinks", "(II)V"⟩ ⟨"FileTree$Inodes", "addLinks", "(II)V"⟩ ∈ lw_g := lw_gi (List.mem_append_right _ (List.mem_of_getElem? (i := 201) (by decide +kernel))) rfl
theorem q_202 : Cond.code ⟨"FileTree$Inodes", "addLinks", "(II)V"⟩ prog_4_method_10_code 3 (Option.none : Option Jvm.ClassFile.FieldType) ∈ lw_g := lw_gi (List.mem_append_right _ (List.mem_of_getElem? (i := 202) (by decide +kernel))) rfl
theorem q_203 : Cond.methodLink "FileTree$Inodes" 41 ⟨"FileTree$Inodes", "linksOf", "(I)I"⟩ ∈ lw_g := lw_gi (List.mem_append_right _ (List.mem_of_getElem? (i := 203) (by decide +kernel))) rfl
theorem q_204 : Cond.instanceMethod ⟨"FileTree$Inodes", "linksOf", "(I)I"⟩ ∈ lw_g := lw_gi (List.mem_append_right _ (List.mem_of_getElem? (i := 204) (by decide +kernel))) rfl
theorem q_205 : Cond.selects "FileTree$Inodes" ⟨"FileTree$Inodes", "linksOf", "(I)I"⟩ ⟨"FileTree$Inodes", "linksOf", "(I)I"⟩ ∈ lw_g := lw_gi (List.mem_append_right _ (List.mem_of_getElem? (i := 205) (by decide +kernel))) rfl
theorem q_206 : Cond.code ⟨"FileTree$Inodes", "linksOf", "(I)I"⟩ prog_4_method_7_code 2 (Option.some Jvm.ClassFile.FieldType.int) ∈ lw_g := lw_gi (List.mem_append_right _ (List.mem_of_getElem? (i := 206) (by decide +kernel))) rfl
theorem q_207 : Cond.fieldLink "FileTree" 12 "FileTree" "directories" "LFileTree$Directories;" ∈ lw_g := lw_gi (List.mem_append_right _ (List.mem_of_getElem? (i := 207) (by decide +kernel))) rfl
theorem q_208 : Cond.fieldLink "FileTree" 20 "FileTree" "inodes" "LFileTree$Inodes;" ∈ lw_g := lw_gi (List.mem_append_right _ (List.mem_of_getElem? (i := 208) (by decide +kernel))) rfl
theorem q_209 : Cond.fieldLink "FileTree" 27 "FileTree" "disk" "LFileTree$Disk;" ∈ lw_g := lw_gi (List.mem_append_right _ (List.mem_of_getElem? (i := 209) (by decide +kernel))) rfl
theorem q_210 : Cond.fieldLink "FileTree" 31 "FileTree" "text" "LFileTree$Text;" ∈ lw_g := lw_gi (List.mem_append_right _ (List.mem_of_getElem? (i := 210) (by decide +kernel))) rfl
theorem q_211 : Cond.fieldLink "FileTree" 35 "FileTree" "buffer" "[B" ∈ lw_g := lw_gi (List.mem_append_right _ (List.mem_of_getElem? (i := 211) (by decide +kernel))) rfl
theorem q_223 : Cond.methodLink "FileTreeLaw" 15 ⟨"FileTree", "write", "(J)Z"⟩ ∈ lw_g := lw_gi (List.mem_append_right _ (List.mem_of_getElem? (i := 223) (by decide +kernel))) rfl
theorem q_224 : Cond.instanceMethod ⟨"FileTree", "write", "(J)Z"⟩ ∈ lw_g := lw_gi (List.mem_append_right _ (List.mem_of_getElem? (i := 224) (by decide +kernel))) rfl
theorem q_225 : Cond.selects "FileTree" ⟨"FileTree", "write", "(J)Z"⟩ ⟨"FileTree", "write", "(J)Z"⟩ ∈ lw_g := lw_gi (List.mem_append_right _ (List.mem_of_getElem? (i := 225) (by decide +kernel))) rfl
theorem q_226 : Cond.code ⟨"FileTree", "write", "(J)Z"⟩ prog_1_method_2_code 3 (Option.some Jvm.ClassFile.FieldType.boolean) ∈ lw_g := lw_gi (List.mem_append_right _ (List.mem_of_getElem? (i := 226) (by decide +kernel))) rfl
theorem q_227 : Cond.methodLink "FileTree" 52 ⟨"FileTree$Text", "append", "(J)Z"⟩ ∈ lw_g := lw_gi (List.mem_append_right _ (List.mem_of_getElem? (i := 227) (by decide +kernel))) rfl
theorem q_228 : Cond.instanceMethod ⟨"FileTree$Text", "append", "(J)Z"⟩ ∈ lw_g := lw_gi (List.mem_append_right _ (List.mem_of_getElem? (i := 228) (by decide +kernel))) rfl
theorem q_229 : Cond.selects "FileTree$Text" ⟨"FileTree$Text", "append", "(J)Z"⟩ ⟨"FileTree$Text", "append", "(J)Z"⟩ ∈ lw_g := lw_gi (List.mem_append_right _ (List.mem_of_getElem? (i := 229) (by decide +kernel))) rfl
theorem q_230 : Cond.code ⟨"FileTree$Text", "append", "(J)Z"⟩ prog_5_method_2_code 6 (Option.some Jvm.ClassFile.FieldType.boolean) ∈ lw_g := lw_gi (List.mem_append_right _ (List.mem_of_getElem? (i := 230) (by decide +kernel))) rfl
theorem q_231 : Cond.constantLong "FileTree$Text" 21 255 ∈ lw_g := lw_gi (List.mem_append_right _ (List.mem_of_getElem? (i := 231) (by decide +kernel))) rfl
theorem q_232 : Cond.methodLink "FileTreeLaw" 20 ⟨"FileTree", "find", "(I)I"⟩ ∈ lw_g := lw_gi (List.mem_append_right _ (List.mem_of_getElem? (i := 232) (by decide +kernel))) rfl
theorem q_233 : Cond.instanceMethod ⟨"FileTree", "find", "(I)I"⟩ ∈ lw_g := lw_gi (List.mem_append_right _ (List.mem_of_getElem? (i := 233) (by decide +kernel))) rfl
theorem q_234 : Cond.selects "FileTree" ⟨"FileTree", "find", "(I)I"⟩ ⟨"FileTree", "find", "(I)I"⟩ ∈ lw_g := lw_gi (List.mem_append_right _ (List.mem_of_getElem? (i := 234) (by decide +kernel))) rfl
theorem q_235 : Cond.code ⟨"FileTree", "find", "(I)I"⟩ prog_1_method_3_code 3 (Option.some Jvm.ClassFile.FieldType.int) ∈ lw_g := lw_gi (List.mem_append_right _ (List.mem_of_getElem? (i := 235) (by decide +kernel))) rfl
theorem q_236 : Cond.methodLink "FileTree" 60 ⟨"FileTree", "lead", "(III)I"⟩ ∈ lw_g := lw_gi (List.mem_append_right _ (List.mem_of_getElem? (i := 236) (by decide +kernel))) rfl
theorem q_238 : Cond.instanceMethod ⟨"FileTree", "lead", "(III)I"⟩ ∈ lw_g := lw_gi (List.mem_append_right _ (List.mem_of_getElem? (i := 238) (by decide +kernel))) rfl
theorem q_239 : Cond.code ⟨"FileTree", "lead", "(III)I"⟩ prog_1_method_18_code 7 (Option.some Jvm.ClassFile.FieldType.int) ∈ lw_g := lw_gi (List.mem_append_right _ (List.mem_of_getElem? (i := 239) (by decide +kernel))) rfl
theorem q_240 : Cond.methodLink "FileTree" 125 ⟨"FileTree$Inodes", "inUse", "(I)Z"⟩ ∈ lw_g := lw_gi (List.mem_append_right _ (List.mem_of_getElem? (i := 240) (by decide +kernel))) rfl
theorem q_241 : Cond.instanceMethod ⟨"FileTree$Inodes", "inUse", "(I)Z"⟩ ∈ lw_g := lw_gi (List.mem_append_right _ (List.mem_of_getElem? (i := 241) (by decide +kernel))) rfl
theorem q_242 : Cond.selects "FileTree$Inodes" ⟨"FileTree$Inodes", "inUse", "(I)Z"⟩ ⟨"FileTree$Inodes", "inUse", "(I)Z"⟩ ∈ lw_g := lw_gi (List.mem_append_right _ (List.mem_of_getElem? (i := 242) (by decide +kernel))) rfl
theorem q_243 : Cond.code ⟨"FileTree$Inodes", "inUse", "(I)Z"⟩ prog_4_method_3_code 2 (Option.some Jvm.ClassFile.FieldType.boolean) ∈ lw_g := lw_gi (List.mem_append_right _ (List.mem_of_getElem? (i := 243) (by decide +kernel))) rfl
theorem q_244 : Cond.methodLink "FileTree$Inodes" 22 ⟨"FileTree$Inodes", "kindOf", "(I)I"⟩ ∈ lw_g := lw_gi (List.mem_append_right _ (List.mem_of_getElem? (i := 244) (by decide +kernel))) rfl
theorem q_245 : Cond.methodLink "FileTree" 168 ⟨"FileTree$Text", "isPath", "(II)Z"⟩ ∈ lw_g := lw_gi (List.mem_append_right _ (List.mem_of_getElem? (i := 245) (by decide +kernel))) rfl
theorem q_246 : Cond.instanceMethod ⟨"FileTree$Text", "isPath", "(II)Z"⟩ ∈ lw_g := lw_gi (List.mem_append_right _ (List.mem_of_getElem? (i := 246) (by decide +kernel))) rfl
theorem q_247 : Cond.selects "FileTree$Text" ⟨"FileTree$Text", "isPath", "(II)Z"⟩ ⟨"FileTree$Text", "isPath", "(II)Z"⟩ ∈ lw_g := lw_gi (List.mem_append_right _ (List.mem_of_getElem? (i := 247) (by decide +kernel))) rfl
theorem q_248 : Cond.code ⟨"FileTree$Text", "isPath", "(II)Z"⟩ prog_5_method_6_code 4 (Option.some Jvm.ClassFile.FieldType.boolean) ∈ lw_g := lw_gi (List.mem_append_right _ (List.mem_of_getElem? (i := 248) (by decide +kernel))) rfl
theorem q_249 : Cond.methodLink "FileTree$Text" 27 ⟨"FileTree$Text", "byteAt", "(I)I"⟩ ∈ lw_g := lw_gi (List.mem_append_right _ (List.mem_of_getElem? (i := 249) (by decide +kernel))) rfl
theorem q_250 : Cond.instanceMethod ⟨"FileTree$Text", "byteAt", "(I)I"⟩ ∈ lw_g := lw_gi (List.mem_append_right _ (List.mem_of_getElem? (i := 250) (by decide +kernel))) rfl
theorem q_251 : Cond.selects "FileTree$Text" ⟨"FileTree$Text", "byteAt", "(I)I"⟩ ⟨"FileTree$Text", "byteAt", "(I)I"⟩ ∈ lw_g := lw_gi (List.mem_append_right _ (List.mem_of_getElem? (i := 251) (by decide +kernel))) rfl
theorem q_252 : Cond.code ⟨"FileTree$Text", "byteAt", "(I)I"⟩ prog_5_method_4_code 2 (Option.some Jvm.ClassFile.FieldType.int) ∈ lw_g := lw_gi (List.mem_append_right _ (List.mem_of_getElem? (i := 252) (by decide +kernel))) rfl
theorem q_253 : Cond.methodLink "FileTree" 171 ⟨"FileTree$Text", "byteAt", "(I)I"⟩ ∈ lw_g := lw_gi (List.mem_append_right _ (List.mem_of_getElem? (i := 253) (by decide +kernel))) rfl
theorem q_254 : Cond.methodLink "FileTree" 174 ⟨"FileTree$Text", "nameBegins", "(II)Z"⟩ ∈ lw_g := lw_gi (List.mem_append_right _ (List.mem_of_getElem? (i := 254) (by decide +kernel))) rfl
theorem q_255 : Cond.instanceMethod ⟨"FileTree$Text", "nameBegins", "(II)Z"⟩ ∈ lw_g := lw_gi (List.mem_append_right _ (List.mem_of_getElem? (i := 255) (by decide +kernel))) rfl
theorem q_256 : Cond.selects "FileTree$Text" ⟨"FileTree$Text", "nameBegins", "(II)Z"⟩ ⟨"FileTree$Text", "nameBegins", "(II)Z"⟩ ∈ lw_g := lw_gi (List.mem_append_right _ (List.mem_of_getElem? (i := 256) (by decide +kernel))) rfl
theorem q_257 : Cond.code ⟨"FileTree$Text", "nameBegins", "(II)Z"⟩ prog_5_method_7_code 3 (Option.some Jvm.ClassFile.FieldType.boolean) ∈ lw_g := lw_gi (List.mem_append_right _ (List.mem_of_getElem? (i := 257) (by decide +kernel))) rfl
theorem q_258 : Cond.methodLink "FileTree" 180 ⟨"FileTree$Text", "copyName", "([BII)V"⟩ ∈ lw_g := lw_gi (List.mem_append_right _ (List.mem_of_getElem? (i := 258) (by decide +kernel))) rfl
theorem q_259 : Cond.instanceMethod ⟨"FileTree$Text", "copyName", "([BII)V"⟩ ∈ lw_g := lw_gi (List.mem_append_right _ (List.mem_of_getElem? (i := 259) (by decide +kernel))) rfl
theorem q_260 : Cond.selects "FileTree$Text" ⟨"FileTree$Text", "copyName", "([BII)V"⟩ ⟨"FileTree$Text", "copyName", "([BII)V"⟩ ∈ lw_g := lw_gi (List.mem_append_right _ (List.mem_of_getElem? (i := 260) (by decide +kernel))) rfl
theorem q_261 : Cond.code ⟨"FileTree$Text", "copyName", "([BII)V"⟩ prog_5_method_8_code 6 (Option.none : Option Jvm.ClassFile.FieldType) ∈ lw_g := lw_gi (List.mem_append_right _ (List.mem_of_getElem? (i := 261) (by decide +kernel))) rfl
theorem q_262 : Cond.methodLink "FileTree" 74 ⟨"FileTree$Directories", "entryNamed", "(I[B)I"⟩ ∈ lw_g := lw_gi (List.mem_append_right _ (List.mem_of_getElem? (i := 262) (by decide +kernel))) rfl
theorem q_263 : Cond.instanceMethod ⟨"FileTree$Directories", "entryNamed", "(I[B)I"⟩ ∈ lw_g := lw_gi (List.mem_append_right _ (List.mem_of_getElem? (i := 263) (by decide +kernel))) rfl
theorem q_264 : Cond.selects "FileTree$Directories" ⟨"FileTree$Directories", "entryNamed", "(I[B)I"⟩ ⟨"FileTree$Directories", "entryNamed", "(I[B)I"⟩ ∈ lw_g := lw_gi (List.mem_append_right _ (List.mem_of_getElem? (i := 264) (by decide +kernel))) rfl
theorem q_265 : Cond.code ⟨"FileTree$Directories", "entryNamed", "(I[B)I"⟩ prog_2_method_2_code 6 (Option.some Jvm.ClassFile.FieldType.int) ∈ lw_g := lw_gi (List.mem_append_right _ (List.mem_of_getElem? (i := 265) (by decide +kernel))) rfl
theorem q_266 : Cond.methodLink "FileTree$Directories" 37 ⟨"FileTree$Directories", "hasName", "(I[B)Z"⟩ ∈ lw_g := lw_gi (List.mem_append_right _ (List.mem_of_getElem? (i := 266) (by decide +kernel))) rfl
theorem q_268 : Cond.instanceMethod ⟨"FileTree$Directories", "hasName", "(I[B)Z"⟩ ∈ lw_g := lw_gi (List.mem_append_right _ (List.mem_of_getElem? (i := 268) (by decide +kernel))) rfl
theorem q_269 : Cond.code ⟨"FileTree$Directories", "hasName", "(I[B)Z"⟩ prog_2_method_11_code 4 (Option.some Jvm.ClassFile.FieldType.boolean) ∈ lw_g := lw_gi (List.mem_append_right _ (List.mem_of_getElem? (i := 269) (by decide +kernel))) rfl
theorem q_270 : Cond.constant "FileTree" 78 65535 ∈ lw_g := lw_gi (List.mem_append_right _ (List.mem_of_getElem? (i := 270) (by decide +kernel))) rfl
theorem q_271 : Cond.methodLink "FileTree" 79 ⟨"FileTree$Disk", "partAt", "(II)I"⟩ ∈ lw_g := lw_gi (List.mem_append_right _ (List.mem_of_getElem? (i := 271) (by decide +kernel))) rfl
theorem q_272 : Cond.methodLink "FileTree" 64 ⟨"FileTree$Text", "empty", "()V"⟩ ∈ lw_g := lw_gi (List.mem_append_right _ (List.mem_of_getElem? (i := 272) (by decide +kernel))) rfl
theorem q_273 : Cond.instanceMethod ⟨"FileTree$Text", "empty", "()V"⟩ ∈ lw_g := lw_gi (List.mem_append_right _ (List.mem_of_getElem? (i := 273) (by decide +kernel))) rfl
theorem q_274 : Cond.selects "FileTree$Text" ⟨"FileTree$Text", "empty", "()V"⟩ ⟨"FileTree$Text", "empty", "()V"⟩ ∈ lw_g := lw_gi (List.mem_append_right _ (List.mem_of_getElem? (i := 274) (by decide +kernel))) rfl
theorem q_275 : Cond.code ⟨"FileTree$Text", "empty", "()V"⟩ prog_5_method_3_code 1 (Option.none : Option Jvm.ClassFile.FieldType) ∈ lw_g := lw_gi (List.mem_append_right _ (List.mem_of_getElem? (i := 275) (by decide +kernel))) rfl
theorem q_276 : Cond.methodLink "FileTreeLaw" 25 ⟨"FileTree", "create", "(IIII)I"⟩ ∈ lw_g := lw_gi (List.mem_append_right _ (List.mem_of_getElem? (i := 276) (by decide +kernel))) rfl
theorem q_277 : Cond.instanceMethod ⟨"FileTree", "create", "(IIII)I"⟩ ∈ lw_g := lw_gi (List.mem_append_right _ (List.mem_of_getElem? (i := 277) (by decide +kernel))) rfl
theorem q_278 : Cond.selects "FileTree" ⟨"FileTree", "create", "(IIII)I"⟩ ⟨"FileTree", "create", "(IIII)I"⟩ ∈ lw_g := lw_gi (List.mem_append_right _ (List.mem_of_getElem? (i := 278) (by decide +kernel))) rfl
theorem q_279 : Cond.code ⟨"FileTree", "create", "(IIII)I"⟩ prog_1_method_4_code 9 (Option.some Jvm.ClassFile.FieldType.int) ∈ lw_g := lw_gi (List.mem_append_right _ (List.mem_of_getElem? (i := 279) (by decide +kernel))) rfl
theorem q_280 : Cond.methodLink "FileTree" 67 ⟨"FileTree$Text", "cutLastName", "(II)I"⟩ ∈ lw_g := lw_gi (List.mem_append_right _ (List.mem_of_getElem? (i := 280) (by decide +kernel))) rfl
theorem q_281 : Cond.instanceMethod ⟨"FileTree$Text", "cutLastName", "(II)I"⟩ ∈ lw_g := lw_gi (List.mem_append_right _ (List.mem_of_getElem? (i := 281) (by decide +kernel))) rfl
theorem q_282 : Cond.selects "FileTree$Text" ⟨"FileTree$Text", "cutLastName", "(II)I"⟩ ⟨"FileTree$Text", "cutLastName", "(II)I"⟩ ∈ lw_g := lw_gi (List.mem_append_right _ (List.mem_of_getElem? (i := 282) (by decide +kernel))) rfl
theorem q_283 : Cond.code ⟨"FileTree$Text", "cutLastName", "(II)I"⟩ prog_5_method_9_code 5 (Option.some Jvm.ClassFile.FieldType.int) ∈ lw_g := lw_gi (List.mem_append_right _ (List.mem_of_getElem? (i := 283) (by decide +kernel))) rfl
theorem q_284 : Cond.methodLink "FileTree$Text" 31 ⟨"FileTree$Text", "isPath", "(II)Z"⟩ ∈ lw_g := lw_gi (List.mem_append_right _ (List.mem_of_getElem? (i := 284) (by decide +kernel))) rfl
theorem q_285 : Cond.methodLink "FileTree$Text" 35 ⟨"FileTree$Text", "nameBegins", "(II)Z"⟩ ∈ lw_g := lw_gi (List.mem_append_right _ (List.mem_of_getElem? (i := 285) (by decide +kernel))) rfl
theorem q_286 : Cond.methodLink "FileTree$Text" 38 ⟨"FileTree$Text", "copyName", "([BII)V"⟩ ∈ lw_g := lw_gi (List.mem_append_right _ (List.mem_of_getElem? (i := 286) (by decide +kernel))) rfl
theorem q_287 : Cond.methodLink "FileTree" 82 ⟨"FileTree$Inodes", "kindOf", "(I)I"⟩ ∈ lw_g := lw_gi (List.mem_append_right _ (List.mem_of_getElem? (i := 287) (by decide +kernel))) rfl
theorem q_288 : Cond.methodLink "FileTree" 86 ⟨"FileTree$Inodes", "leastFree", "()I"⟩ ∈ lw_g := lw_gi (List.mem_append_right _ (List.mem_of_getElem? (i := 288) (by decide +kernel))) rfl
theorem q_289 : Cond.instanceMethod ⟨"FileTree$Inodes", "leastFree", "()I"⟩ ∈ lw_g := lw_gi (List.mem_append_right _ (List.mem_of_getElem? (i := 289) (by decide +kernel))) rfl
theorem q_290 : Cond.selects "FileTree$Inodes" ⟨"FileTree$Inodes", "leastFree", "()I"⟩ ⟨"FileTree$Inodes", "leastFree", "()I"⟩ ∈ lw_g := lw_gi (List.mem_append_right _ (List.mem_of_getElem? (i := 290) (by decide +kernel))) rfl
theorem q_291 : Cond.code ⟨"FileTree$Inodes", "leastFree", "()I"⟩ prog_4_method_13_code 2 (Option.some Jvm.ClassFile.FieldType.int) ∈ lw_g := lw_gi (List.mem_append_right _ (List.mem_of_getElem? (i := 291) (by decide +kernel))) rfl
theorem q_292 : Cond.methodLink "FileTree$Inodes" 52 ⟨"FileTree$Inodes", "inUse", "(I)Z"⟩ ∈ lw_g := lw_gi (List.mem_append_right _ (List.mem_of_getElem? (i := 292) (by decide +kernel))) rfl
theorem q_293 : Cond.methodLink "FileTree" 90 ⟨"FileTree$Directories", "hasRoom", "(II)Z"⟩ ∈ lw_g := lw_gi (List.mem_append_right _ (List.mem_of_getElem? (i := 293) (by decide +kernel))) rfl
theorem q_294 : Cond.instanceMethod ⟨"FileTree$Directories", "hasRoom", "(II)Z"⟩ ∈ lw_g := lw_gi (List.mem_append_right _ (List.mem_of_getElem? (i := 294) (by decide +kernel))) rfl
theorem q_295 : Cond.selects "FileTree$Directories" ⟨"FileTree$Directories", "hasRoom", "(II)Z"⟩ ⟨"FileTree$Directories", "hasRoom", "(II)Z"⟩ ∈ lw_g := lw_gi (List.mem_append_right _ (List.mem_of_getElem? (i := 295) (by decide +kernel))) rfl
theorem q_296 : Cond.code ⟨"FileTree$Directories", "hasRoom", "(II)Z"⟩ prog_2_method_4_code 5 (Option.some Jvm.ClassFile.FieldType.boolean) ∈ lw_g := lw_gi (List.mem_append_right _ (List.mem_of_getElem? (i := 296) (by decide +kernel))) rfl
theorem q_297 : Cond.methodLink "FileTree$Directories" 44 ⟨"FileTree$Inodes", "linksOf", "(I)I"⟩ ∈ lw_g := lw_gi (List.mem_append_right _ (List.mem_of_getElem? (i := 297) (by decide +kernel))) rfl
theorem q_298 : Cond.constant "FileTree$Directories" 50 274416 ∈ lw_g := lw_gi (List.mem_append_right _ (List.mem_of_getElem? (i := 298) (by decide +kernel))) rfl
theorem q_299 : Cond.methodLink "FileTree$Directories" 51 ⟨"FileTree$Inodes", "blocksToAdd", "(I)I"⟩ ∈ lw_g := lw_gi (List.mem_append_right _ (List.mem_of_getElem? (i := 299) (by decide +kernel))) rfl
theorem q_300 : Cond.methodLink "FileTree$Directories" 54 ⟨"FileTree$Disk", "freeBlocks", "()I"⟩ ∈ lw_g := lw_gi (List.mem_append_right _ (List.mem_of_getElem? (i := 300) (by decide +kernel))) rfl
theorem q_301 : Cond.methodLink "FileTree" 94 ⟨"FileTree$Directories", "addEntry", "(I[BI)V"⟩ ∈ lw_g := lw_gi (List.mem_append_right _ (List.mem_of_getElem? (i := 301) (by decide +kernel))) rfl
theorem q_302 : Cond.methodLink "FileTreeLaw" 30 ⟨"FileTree", "link", "(I)I"⟩ ∈ lw_g := lw_gi (List.mem_append_right _ (List.mem_of_getElem? (i := 302) (by decide +kernel))) rfl
theorem q_303 : Cond.instanceMethod ⟨"FileTree", "link", "(I)I"⟩ ∈ lw_g := lw_gi (List.mem_append_right _ (List.mem_of_getElem? (i := 303) (by decide +kernel))) rfl
theorem q_304 : Cond.selects "FileTree" ⟨"FileTree", "link", "(I)I"⟩ ⟨"FileTree", "link", "(I)I"⟩ ∈ lw_g := lw_gi (List.mem_append_right _ (List.mem_of_getElem? (i := 304) (by decide +kernel))) rfl
theorem q_305 : Cond.code ⟨"FileTree", "link", "(I)I"⟩ prog_1_method_5_code 5 (Option.some Jvm.ClassFile.FieldType.int) ∈ lw_g := lw_gi (List.mem_append_right _ (List.mem_of_getElem? (i := 305) (by decide +kernel))) rfl
theorem q_306 : Cond.methodLink "FileTree" 98 ⟨"FileTree$Text", "firstBlank", "()I"⟩ ∈ lw_g := lw_gi (List.mem_append_right _ (List.mem_of_getElem? (i := 306) (by decide +kernel))) rfl
theorem q_307 : Cond.instanceMethod ⟨"FileTree$Text", "firstBlank", "()I"⟩ ∈ lw_g := lw_gi (List.mem_append_right _ (List.mem_of_getElem? (i := 307) (by decide +kernel))) rfl
theorem q_308 : Cond.selects "FileTree$Text" ⟨"FileTree$Text", "firstBlank", "()I"⟩ ⟨"FileTree$Text", "firstBlank", "()I"⟩ ∈ lw_g := lw_gi (List.mem_append_right _ (List.mem_of_getElem? (i := 308) (by decide +kernel))) rfl
theorem q_309 : Cond.code ⟨"FileTree$Text", "firstBlank", "()I"⟩ prog_5_method_5_code 2 (Option.some Jvm.ClassFile.FieldType.int) ∈ lw_g := lw_gi (List.mem_append_right _ (List.mem_of_getElem? (i := 309) (by decide +kernel))) rfl
theorem q_310 : Cond.methodLink "FileTree" 101 ⟨"FileTree$Inodes", "linksOf", "(I)I"⟩ ∈ lw_g := lw_gi (List.mem_append_right _ (List.mem_of_getElem? (i := 310) (by decide +kernel))) rfl
theorem q_311 : Cond.methodLink "FileTree" 104 ⟨"FileTree$Inodes", "addLinks", "(II)V"⟩ ∈ lw_g := lw_gi (List.mem_append_right _ (List.mem_of_getElem? (i := 311) (by decide +kernel))) rfl
theorem q_312 : Cond.methodLink "FileTreeLaw" 34 ⟨"FileTree", "unlink", "(I)I"⟩ ∈ lw_g := lw_gi (List.mem_append_right _ (List.mem_of_getElem? (i := 312) (by decide +kernel))) rfl
theorem q_313 : Cond.instanceMethod ⟨"FileTree", "unlink", "(I)I"⟩ ∈ lw_g := lw_gi (List.mem_append_right _ (List.mem_of_getElem? (i := 313) (by decide +kernel))) rfl
theorem q_314 : Cond.selects "FileTree" ⟨"FileTree", "unlink", "(I)I"⟩ ⟨"FileTree", "unlink", "(I)I"⟩ ∈ lw_g := lw_gi (List.mem_append_right _ (List.mem_of_getElem? (i := 314) (by decide +kernel))) rfl
theorem q_315 : Cond.code ⟨"FileTree", "unlink", "(I)I"⟩ prog_1_method_6_code 5 (Option.some Jvm.ClassFile.FieldType.int) ∈ lw_g := lw_gi (List.mem_append_right _ (List.mem_of_getElem? (i := 315) (by decide +kernel))) rfl
theorem q_316 : Cond.methodLink "FileTree" 107 ⟨"FileTree$Text", "lastIsDots", "()Z"⟩ ∈ lw_g := lw_gi (List.mem_append_right _ (List.mem_of_getElem? (i := 316) (by decide +kernel))) rfl
theorem q_317 : Cond.instanceMethod ⟨"FileTree$Text", "lastIsDots", "()Z"⟩ ∈ lw_g := lw_gi (List.mem_append_right _ (List.mem_of_getElem? (i := 317) (by decide +kernel))) rfl
theorem q_318 : Cond.selects "FileTree$Text" ⟨"FileTree$Text", "lastIsDots", "()Z"⟩ ⟨"FileTree$Text", "lastIsDots", "()Z"⟩ ∈ lw_g := lw_gi (List.mem_append_right _ (List.mem_of_getElem? (i := 318) (by decide +kernel))) rfl
theorem q_319 : Cond.code ⟨"FileTree$Text", "lastIsDots", "()Z"⟩ prog_5_method_10_code 1 (Option.some Jvm.ClassFile.FieldType.boolean) ∈ lw_g := lw_gi (List.mem_append_right _ (List.mem_of_getElem? (i := 319) (by decide +kernel))) rfl
theorem q_320 : Cond.methodLink "FileTree" 111 ⟨"FileTree$Directories", "hasOnlyItsTwo", "(I)Z"⟩ ∈ lw_g := lw_gi (List.mem_append_right _ (List.mem_of_getElem? (i := 320) (by decide +kernel))) rfl
theorem q_321 : Cond.instanceMethod ⟨"FileTree$Directories", "hasOnlyItsTwo", "(I)Z"⟩ ∈ lw_g := lw_gi (List.mem_append_right _ (List.mem_of_getElem? (i := 321) (by decide +kernel))) rfl
theorem q_322 : Cond.selects "FileTree$Directories" ⟨"FileTree$Directories", "hasOnlyItsTwo", "(I)Z"⟩ ⟨"FileTree$Directories", "hasOnlyItsTwo", "(I)Z"⟩ ∈ lw_g := lw_gi (List.mem_append_right _ (List.mem_of_getElem? (i := 322) (by decide +kernel))) rfl
theorem q_323 : Cond.code ⟨"FileTree$Directories", "hasOnlyItsTwo", "(I)Z"⟩ prog_2_method_3_code 4 (Option.some Jvm.ClassFile.FieldType.boolean) ∈ lw_g := lw_gi (List.mem_append_right _ (List.mem_of_getElem? (i := 323) (by decide +kernel))) rfl
theorem q_324 : Cond.methodLink "FileTree" 115 ⟨"FileTree$Directories", "end", "(II)V"⟩ ∈ lw_g := lw_gi (List.mem_append_right _ (List.mem_of_getElem? (i := 324) (by decide +kernel))) rfl
theorem q_325 : Cond.instanceMethod ⟨"FileTree$Directories", "end", "(II)V"⟩ ∈ lw_g := lw_gi (List.mem_append_right _ (List.mem_of_getElem? (i := 325) (by decide +kernel))) rfl
theorem q_326 : Cond.selects "FileTree$Directories" ⟨"FileTree$Directories", "end", "(II)V"⟩ ⟨"FileTree$Directories", "end", "(II)V"⟩ ∈ lw_g := lw_gi (List.mem_append_right _ (List.mem_of_getElem? (i := 326) (by decide +kernel))) rfl
theorem q_327 : Cond.code ⟨"FileTree$Directories", "end", "(II)V"⟩ prog_2_method_8_code 3 (Option.none : Option Jvm.ClassFile.FieldType) ∈ lw_g := lw_gi (List.mem_append_right _ (List.mem_of_getElem? (i := 327) (by decide +kernel))) rfl
theorem q_328 : Cond.methodLink "FileTree$Directories" 91 ⟨"FileTree$Directories", "wipeEntry", "(I)V"⟩ ∈ lw_g := lw_gi (List.mem_append_right _ (List.mem_of_getElem? (i := 328) (by decide +kernel))) rfl
theorem q_329 : Cond.instanceMethod ⟨"FileTree$Directories", "wipeEntry", "(I)V"⟩ ∈ lw_g := lw_gi (List.mem_append_right _ (List.mem_of_getElem? (i := 329) (by decide +kernel))) rfl
theorem q_330 : Cond.selects "FileTree$Directories" ⟨"FileTree$Directories", "wipeEntry", "(I)V"⟩ ⟨"FileTree$Directories", "wipeEntry", "(I)V"⟩ ∈ lw_g := lw_gi (List.mem_append_right _ (List.mem_of_getElem? (i := 330) (by decide +kernel))) rfl
theorem q_331 : Cond.code ⟨"FileTree$Directories", "wipeEntry", "(I)V"⟩ prog_2_method_6_code 2 (Option.none : Option Jvm.ClassFile.FieldType) ∈ lw_g := lw_gi (List.mem_append_right _ (List.mem_of_getElem? (i := 331) (by decide +kernel))) rfl
theorem q_332 : Cond.methodLink "FileTree$Directories" 74 ⟨"FileTree$Disk", "wipe", "(II)V"⟩ ∈ lw_g := lw_gi (List.mem_append_right _ (List.mem_of_getElem? (i := 332) (by decide +kernel))) rfl
theorem q_333 : Cond.methodLink "FileTree" 118 ⟨"FileTree$Directories", "wipeEntry", "(I)V"⟩ ∈ lw_g := lw_gi (List.mem_append_right _ (List.mem_of_getElem? (i := 333) (by decide +kernel))) rfl
theorem q_334 : Cond.methodLink "FileTree" 122 ⟨"FileTree$Inodes", "freeIfLeft", "(I)Z"⟩ ∈ lw_g := lw_gi (List.mem_append_right _ (List.mem_of_getElem? (i := 334) (by decide +kernel))) rfl
theorem q_335 : Cond.instanceMethod ⟨"FileTree$Inodes", "freeIfLeft", "(I)Z"⟩ ∈ lw_g := lw_gi (List.mem_append_right _ (List.mem_of_getElem? (i := 335) (by decide +kernel))) rfl
theorem q_336 : Cond.selects "FileTree$Inodes" ⟨"FileTree$Inodes", "freeIfLeft", "(I)Z"⟩ ⟨"FileTree$Inodes", "freeIfLeft", "(I)Z"⟩ ∈ lw_g := lw_gi (List.mem_append_right _ (List.mem_of_getElem? (i := 336) (by decide +kernel))) rfl
theorem q_337 : Cond.code ⟨"FileTree$Inodes", "freeIfLeft", "(I)Z"⟩ prog_4_method_15_code 2 (Option.some Jvm.ClassFile.FieldType.boolean) ∈ lw_g := lw_gi (List.mem_append_right _ (List.mem_of_getElem? (i := 337) (by decide +kernel))) rfl
theorem q_338 : Cond.methodLink "FileTree$Inodes" 55 ⟨"FileTree$Inodes", "heldOf", "(I)I"⟩ ∈ lw_g := lw_gi (List.mem_append_right _ (List.mem_of_getElem? (i := 338) (by decide +kernel))) rfl
theorem q_339 : Cond.instanceMethod ⟨"FileTree$Inodes", "heldOf", "(I)I"⟩ ∈ lw_g := lw_gi (List.mem_append_right _ (List.mem_of_getElem? (i := 339) (by decide +kernel))) rfl
theorem q_340 : Cond.selects "FileTree$Inodes" ⟨"FileTree$Inodes", "heldOf", "(I)I"⟩ ⟨"FileTree$Inodes", "heldOf", "(I)I"⟩ ∈ lw_g := lw_gi (List.mem_append_right _ (List.mem_of_getElem? (i := 340) (by decide +kernel))) rfl
theorem q_341 : Cond.code ⟨"FileTree$Inodes", "heldOf", "(I)I"⟩ prog_4_method_9_code 2 (Option.some Jvm.ClassFile.FieldType.int) ∈ lw_g := lw_gi (List.mem_append_right _ (List.mem_of_getElem? (i := 341) (by decide +kernel))) rfl
theorem q_342 : Cond.methodLink "FileTree$Inodes" 58 ⟨"FileTree$Inodes", "dropBlocks", "(I)V"⟩ ∈ lw_g := lw_gi (List.mem_append_right _ (List.mem_of_getElem? (i := 342) (by decide +kernel))) rfl
theorem q_343 : Cond.instanceMethod ⟨"FileTree$Inodes", "dropBlocks", "(I)V"⟩ ∈ lw_g := lw_gi (List.mem_append_right _ (List.mem_of_getElem? (i := 343) (by decide +kernel))) rfl
theorem q_344 : Cond.selects "FileTree$Inodes" ⟨"FileTree$Inodes", "dropBlocks", "(I)V"⟩ ⟨"FileTree$Inodes", "dropBlocks", "(I)V"⟩ ∈ lw_g := lw_gi (List.mem_append_right _ (List.mem_of_getElem? (i := 344) (by decide +kernel))) rfl
theorem q_345 : Cond.code ⟨"FileTree$Inodes", "dropBlocks", "(I)V"⟩ prog_4_method_16_code 3 (Option.none : Option Jvm.ClassFile.FieldType) ∈ lw_g := lw_gi (List.mem_append_right _ (List.mem_of_getElem? (i := 345) (by decide +kernel))) rfl
theorem q_346 : Cond.methodLink "FileTree$Inodes" 68 ⟨"FileTree$Disk", "giveBlock", "(I)V"⟩ ∈ lw_g := lw_gi (List.mem_append_right _ (List.mem_of_getElem? (i := 346) (by decide +kernel))) rfl
theorem q_347 : Cond.instanceMethod ⟨"FileTree$Disk", "giveBlock", "(I)V"⟩ ∈ lw_g := lw_gi (List.mem_append_right _ (List.mem_of_getElem? (i := 347) (by decide +kernel))) rfl
theorem q_348 : Cond.selects "FileTree$Disk" ⟨"FileTree$Disk", "giveBlock", "(I)V"⟩ ⟨"FileTree$Disk", "giveBlock", "(I)V"⟩ ∈ lw_g := lw_gi (List.mem_append_right _ (List.mem_of_getElem? (i := 348) (by decide +kernel))) rfl
theorem q_349 : Cond.code ⟨"FileTree$Disk", "giveBlock", "(I)V"⟩ prog_3_method_9_code 2 (Option.none : Option Jvm.ClassFile.FieldType) ∈ lw_g := lw_gi (List.mem_append_right _ (List.mem_of_getElem? (i := 349) (by decide +kernel))) rfl
theorem q_350 : Cond.methodLink "FileTree$Inodes" 62 ⟨"FileTree$Disk", "wipe", "(II)V"⟩ ∈ lw_g := lw_gi (List.mem_append_right _ (List.mem_of_getElem? (i := 350) (by decide +kernel))) rfl
theorem q_351 : Cond.methodLink "FileTreeLaw" 38 ⟨"FileTree", "hold", "(I)Z"⟩ ∈ lw_g := lw_gi (List.mem_append_right _ (List.mem_of_getElem? (i := 351) (by decide +kernel))) rfl
theorem q_352 : Cond.instanceMethod ⟨"FileTree", "hold", "(I)Z"⟩ ∈ lw_g := lw_gi (List.mem_append_right _ (List.mem_of_getElem? (i := 352) (by decide +kernel))) rfl
theorem q_353 : Cond.selects "FileTree" ⟨"FileTree", "hold", "(I)Z"⟩ ⟨"FileTree", "hold", "(I)Z"⟩ ∈ lw_g := lw_gi (List.mem_append_right _ (List.mem_of_getElem? (i := 353) (by decide +kernel))) rfl
theorem q_354 : Cond.code ⟨"FileTree", "hold", "(I)Z"⟩ prog_1_method_7_code 2 (Option.some Jvm.ClassFile.FieldType.boolean) ∈ lw_g := lw_gi (List.mem_append_right _ (List.mem_of_getElem? (i := 354) (by decide +kernel))) rfl
theorem q_355 : Cond.methodLink "FileTree" 128 ⟨"FileTree$Inodes", "addHeld", "(II)V"⟩ ∈ lw_g := lw_gi (List.mem_append_right _ (List.mem_of_getElem? (i := 355) (by decide +kernel))) rfl
theorem q_356 : Cond.instanceMethod ⟨"FileTree$Inodes", "addHeld", "(II)V"⟩ ∈ lw_g := lw_gi (List.mem_append_right _ (List.mem_of_getElem? (i := 356) (by decide +kernel))) rfl
theorem q_357 : Cond.selects "FileTree$Inodes" ⟨"FileTree$Inodes", "addHeld", "(II)V"⟩ ⟨"FileTree$Inodes", "addHeld", "(II)V"⟩ ∈ lw_g := lw_gi (List.mem_append_right _ (List.mem_of_getElem? (i := 357) (by decide +kernel))) rfl
theorem q_358 : Cond.code ⟨"FileTree$Inodes", "addHeld", "(II)V"⟩ prog_4_method_12_code 3 (Option.none : Option Jvm.ClassFile.FieldType) ∈ lw_g := lw_gi (List.mem_append_right _ (List.mem_of_getElem? (i := 358) (by decide +kernel))) rfl
theorem q_359 : Cond.methodLink "FileTreeLaw" 43 ⟨"FileTree", "leave", "(I)Z"⟩ ∈ lw_g := lw_gi (List.mem_append_right _ (List.mem_of_getElem? (i := 359) (by decide +kernel))) rfl
theorem q_360 : Cond.instanceMethod ⟨"FileTree", "leave", "(I)Z"⟩ ∈ lw_g := lw_gi (List.mem_append_right _ (List.mem_of_getElem? (i := 360) (by decide +kernel))) rfl
theorem q_361 : Cond.selects "FileTree" ⟨"FileTree", "leave", "(I)Z"⟩ ⟨"FileTree", "leave", "(I)Z"⟩ ∈ lw_g := lw_gi (List.mem_append_right _ (List.mem_of_getElem? (i := 361) (by decide +kernel))) rfl
theorem q_362 : Cond.code ⟨"FileTree", "leave", "(I)Z"⟩ prog_1_method_8_code 2 (Option.some Jvm.ClassFile.FieldType.boolean) ∈ lw_g := lw_gi (List.mem_append_right _ (List.mem_of_getElem? (i := 362) (by decide +kernel))) rfl
theorem q_363 : Cond.methodLink "FileTree" 131 ⟨"FileTree$Inodes", "heldOf", "(I)I"⟩ ∈ lw_g := lw_gi (List.mem_append_right _ (List.mem_of_getElem? (i := 363) (by decide +kernel))) rfl
theorem q_364 : Cond.methodLink "FileTreeLaw" 47 ⟨"FileTree", "read", "(III)I"⟩ ∈ lw_g := lw_gi (List.mem_append_right _ (List.mem_of_getElem? (i := 364) (by decide +kernel))) rfl
theorem q_365 : Cond.instanceMethod ⟨"FileTree", "read", "(III)I"⟩ ∈ lw_g := lw_gi (List.mem_append_right _ (List.mem_of_getElem? (i := 365) (by decide +kernel))) rfl
theorem q_366 : Cond.selects "FileTree" ⟨"FileTree", "read", "(III)I"⟩ ⟨"FileTree", "read", "(III)I"⟩ ∈ lw_g := lw_gi (List.mem_append_right _ (List.mem_of_getElem? (i := 366) (by decide +kernel))) rfl
theorem q_367 : Cond.code ⟨"FileTree", "read", "(III)I"⟩ prog_1_method_9_code 6 (Option.some Jvm.ClassFile.FieldType.int) ∈ lw_g := lw_gi (List.mem_append_right _ (List.mem_of_getElem? (i := 367) (by decide +kernel))) rfl
theorem q_368 : Cond.methodLink "FileTree" 134 ⟨"FileTree$Inodes", "sizeOf", "(I)I"⟩ ∈ lw_g := lw_gi (List.mem_append_right _ (List.mem_of_getElem? (i := 368) (by decide +kernel))) rfl
theorem q_369 : Cond.methodLink "FileTree" 137 ⟨"java/lang/Math", "min", "(II)I"⟩ ∈ lw_g := lw_gi (List.mem_append_right _ (List.mem_of_getElem? (i := 369) (by decide +kernel))) rfl
theorem q_370 : Cond.static ⟨"java/lang/Math", "min", "(II)I"⟩ ∈ lw_g := lw_gi (List.mem_append_right _ (List.mem_of_getElem? (i := 370) (by decide +kernel))) rfl
theorem q_371 : Cond.code ⟨"java/lang/Math", "min", "(II)I"⟩ prog_9_method_69_code 2 (Option.some Jvm.ClassFile.FieldType.int) ∈ lw_g := lw_gi (List.mem_append_right _ (List.mem_of_getElem? (i := 371) (by decide +kernel))) rfl
theorem q_372 : Cond.methodLink "FileTree" 142 ⟨"FileTree$Inodes", "bring", "(III[B)I"⟩ ∈ lw_g := lw_gi (List.mem_append_right _ (List.mem_of_getElem? (i := 372) (by decide +kernel))) rfl
theorem q_373 : Cond.instanceMethod ⟨"FileTree$Inodes", "bring", "(III[B)I"⟩ ∈ lw_g := lw_gi (List.mem_append_right _ (List.mem_of_getElem? (i := 373) (by decide +kernel))) rfl
theorem q_374 : Cond.selects "FileTree$Inodes" ⟨"FileTree$Inodes", "bring", "(III[B)I"⟩ ⟨"FileTree$Inodes", "bring", "(III[B)I"⟩ ∈ lw_g := lw_gi (List.mem_append_right _ (List.mem_of_getElem? (i := 374) (by decide +kernel))) rfl
theorem q_375 : Cond.code ⟨"FileTree$Inodes", "bring", "(III[B)I"⟩ prog_4_method_20_code 11 (Option.some Jvm.ClassFile.FieldType.int) ∈ lw_g := lw_gi (List.mem_append_right _ (List.mem_of_getElem? (i := 375) (by decide +kernel))) rfl
theorem q_376 : Cond.methodLink "FileTree$Inodes" 81 ⟨"java/lang/Math", "min", "(II)I"⟩ ∈ lw_g := lw_gi (List.mem_append_right _ (List.mem_of_getElem? (i := 376) (by decide +kernel))) rfl
theorem q_377 : Cond.methodLink "FileTree$Inodes" 86 ⟨"java/lang/Math", "max", "(II)I"⟩ ∈ lw_g := lw_gi (List.mem_append_right _ (List.mem_of_getElem? (i := 377) (by decide +kernel))) rfl
theorem q_378 : Cond.static ⟨"java/lang/Math", "max", "(II)I"⟩ ∈ lw_g := lw_gi (List.mem_append_right _ (List.mem_of_getElem? (i := 378) (by decide +kernel))) rfl
theorem q_379 : Cond.code ⟨"java/lang/Math", "max", "(II)I"⟩ prog_9_method_65_code 2 (Option.some Jvm.ClassFile.FieldType.int) ∈ lw_g := lw_gi (List.mem_append_right _ (List.mem_of_getElem? (i := 379) (by decide +kernel))) rfl
theorem q_380 : Cond.methodLink "FileTree$Inodes" 89 ⟨"FileTree$Inodes", "placeOfByte", "(II)I"⟩ ∈ lw_g := lw_gi (List.mem_append_right _ (List.mem_of_getElem? (i := 380) (by decide +kernel))) rfl
theorem q_381 : Cond.methodLink "FileTreeLaw" 52 ⟨"FileTree", "save", "(III)I"⟩ ∈ lw_g := lw_gi (List.mem_append_right _ (List.mem_of_getElem? (i := 381) (by decide +kernel))) rfl
theorem q_382 : Cond.instanceMethod ⟨"FileTree", "save", "(III)I"⟩ ∈ lw_g := lw_gi (List.mem_append_right _ (List.mem_of_getElem? (i := 382) (by decide +kernel))) rfl
theorem q_383 : Cond.selects "FileTree" ⟨"FileTree", "save", "(III)I"⟩ ⟨"FileTree", "save", "(III)I"⟩ ∈ lw_g := lw_gi (List.mem_append_right _ (List.mem_of_getElem? (i := 383) (by decide +kernel))) rfl
theorem q_384 : Cond.code ⟨"FileTree", "save", "(III)I"⟩ prog_1_method_10_code 4 (Option.some Jvm.ClassFile.FieldType.int) ∈ lw_g := lw_gi (List.mem_append_right _ (List.mem_of_getElem? (i := 384) (by decide +kernel))) rfl
theorem q_385 : Cond.constant "FileTree" 146 274432 ∈ lw_g := lw_gi (List.mem_append_right _ (List.mem_of_getElem? (i := 385) (by decide +kernel))) rfl
theorem q_386 : Cond.methodLink "FileTree" 147 ⟨"FileTree$Inodes", "put", "(III[B)I"⟩ ∈ lw_g := lw_gi (List.mem_append_right _ (List.mem_of_getElem? (i := 386) (by decide +kernel))) rfl
theorem q_387 : Cond.instanceMethod ⟨"FileTree$Inodes", "put", "(III[B)I"⟩ ∈ lw_g := lw_gi (List.mem_append_right _ (List.mem_of_getElem? (i := 387) (by decide +kernel))) rfl
theorem q_388 : Cond.selects "FileTree$Inodes" ⟨"FileTree$Inodes", "put", "(III[B)I"⟩ ⟨"FileTree$Inodes", "put", "(III[B)I"⟩ ∈ lw_g := lw_gi (List.mem_append_right _ (List.mem_of_getElem? (i := 388) (by decide +kernel))) rfl
theorem q_389 : Cond.code ⟨"FileTree$Inodes", "put", "(III[B)I"⟩ prog_4_method_21_code 11 (Option.some Jvm.ClassFile.FieldType.int) ∈ lw_g := lw_gi (List.mem_append_right _ (List.mem_of_getElem? (i := 389) (by decide +kernel))) rfl
theorem q_390 : Cond.methodLink "FileTree$Inodes" 92 ⟨"FileTree$Inodes", "addBlock", "(II)Z"⟩ ∈ lw_g := lw_gi (List.mem_append_right _ (List.mem_of_getElem? (i := 390) (by decide +kernel))) rfl
theorem q_391 : Cond.methodLink "FileTree$Inodes" 96 ⟨"FileTree$Inodes", "sizeOf", "(I)I"⟩ ∈ lw_g := lw_gi (List.mem_append_right _ (List.mem_of_getElem? (i := 391) (by decide +kernel))) rfl
theorem q_392 : Cond.methodLink "FileTree$Inodes" 99 ⟨"FileTree$Inodes", "setSize", "(II)V"⟩ ∈ lw_g := lw_gi (List.mem_append_right _ (List.mem_of_getElem? (i := 392) (by decide +kernel))) rfl
theorem q_393 : Cond.methodLink "FileTreeLaw" 56 ⟨"FileTree", "clear", "(I)Z"⟩ ∈ lw_g := lw_gi (List.mem_append_right _ (List.mem_of_getElem? (i := 393) (by decide +kernel))) rfl
theorem q_394 : Cond.instanceMethod ⟨"FileTree", "clear", "(I)Z"⟩ ∈ lw_g := lw_gi (List.mem_append_right _ (List.mem_of_getElem? (i := 394) (by decide +kernel))) rfl
theorem q_395 : Cond.selects "FileTree" ⟨"FileTree", "clear", "(I)Z"⟩ ⟨"FileTree", "clear", "(I)Z"⟩ ∈ lw_g := lw_gi (List.mem_append_right _ (List.mem_of_getElem? (i := 395) (by decide +kernel))) rfl
theorem q_396 : Cond.code ⟨"FileTree", "clear", "(I)Z"⟩ prog_1_method_11_code 2 (Option.some Jvm.ClassFile.FieldType.boolean) ∈ lw_g := lw_gi (List.mem_append_right _ (List.mem_of_getElem? (i := 396) (by decide +kernel))) rfl
theorem q_397 : Cond.methodLink "FileTree" 150 ⟨"FileTree$Inodes", "dropBlocks", "(I)V"⟩ ∈ lw_g := lw_gi (List.mem_append_right _ (List.mem_of_getElem? (i := 397) (by decide +kernel))) rfl
theorem q_398 : Cond.methodLink "FileTree" 153 ⟨"FileTree$Inodes", "setSize", "(II)V"⟩ ∈ lw_g := lw_gi (List.mem_append_right _ (List.mem_of_getElem? (i := 398) (by decide +kernel))) rfl
theorem q_399 : Cond.methodLink "FileTreeLaw" 60 ⟨"FileTree", "about", "(II)I"⟩ ∈ lw_g := lw_gi (List.mem_append_right _ (List.mem_of_getElem? (i := 399) (by decide +kernel))) rfl
theorem q_400 : Cond.instanceMethod ⟨"FileTree", "about", "(II)I"⟩ ∈ lw_g := lw_gi (List.mem_append_right _ (List.mem_of_getElem? (i := 400) (by decide +kernel))) rfl
theorem q_401 : Cond.selects "FileTree" ⟨"FileTree", "about", "(II)I"⟩ ⟨"FileTree", "about", "(II)I"⟩ ∈ lw_g := lw_gi (List.mem_append_right _ (List.mem_of_getElem? (i := 401) (by decide +kernel))) rfl
theorem q_402 : Cond.code ⟨"FileTree", "about", "(II)I"⟩ prog_1_method_12_code 3 (Option.some Jvm.ClassFile.FieldType.int) ∈ lw_g := lw_gi (List.mem_append_right _ (List.mem_of_getElem? (i := 402) (by decide +kernel))) rfl
theorem q_403 : Cond.methodLink "FileTree" 156 ⟨"FileTree$Inodes", "isInode", "(I)Z"⟩ ∈ lw_g := lw_gi (List.mem_append_right _ (List.mem_of_getElem? (i := 403) (by decide +kernel))) rfl
theorem q_404 : Cond.methodLink "FileTree" 159 ⟨"FileTree$Inodes", "majorOf", "(I)I"⟩ ∈ lw_g := lw_gi (List.mem_append_right _ (List.mem_of_getElem? (i := 404) (by decide +kernel))) rfl
theorem q_405 : Cond.instanceMethod ⟨"FileTree$Inodes", "majorOf", "(I)I"⟩ ∈ lw_g := lw_gi (List.mem_append_right _ (List.mem_of_getElem? (i := 405) (by decide +kernel))) rfl
theorem q_406 : Cond.selects "FileTree$Inodes" ⟨"FileTree$Inodes", "majorOf", "(I)I"⟩ ⟨"FileTree$Inodes", "majorOf", "(I)I"⟩ ∈ lw_g := lw_gi (List.mem_append_right _ (List.mem_of_getElem? (i := 406) (by decide +kernel))) rfl
theorem q_407 : Cond.code ⟨"FileTree$Inodes", "majorOf", "(I)I"⟩ prog_4_method_5_code 2 (Option.some Jvm.ClassFile.FieldType.int) ∈ lw_g := lw_gi (List.mem_append_right _ (List.mem_of_getElem? (i := 407) (by decide +kernel))) rfl
theorem q_408 : Cond.methodLink "FileTree" 162 ⟨"FileTree$Inodes", "minorOf", "(I)I"⟩ ∈ lw_g := lw_gi (List.mem_append_right _ (List.mem_of_getElem? (i := 408) (by decide +kernel))) rfl
theorem q_409 : Cond.instanceMethod ⟨"FileTree$Inodes", "minorOf", "(I)I"⟩ ∈ lw_g := lw_gi (List.mem_append_right _ (List.mem_of_getElem? (i := 409) (by decide +kernel))) rfl
theorem q_410 : Cond.selects "FileTree$Inodes" ⟨"FileTree$Inodes", "minorOf", "(I)I"⟩ ⟨"FileTree$Inodes", "minorOf", "(I)I"⟩ ∈ lw_g := lw_gi (List.mem_append_right _ (List.mem_of_getElem? (i := 410) (by decide +kernel))) rfl
theorem q_411 : Cond.code ⟨"FileTree$Inodes", "minorOf", "(I)I"⟩ prog_4_method_6_code 2 (Option.some Jvm.ClassFile.FieldType.int) ∈ lw_g := lw_gi (List.mem_append_right _ (List.mem_of_getElem? (i := 411) (by decide +kernel))) rfl
theorem q_412 : Cond.methodLink "FileTreeLaw" 65 ⟨"FileTree", "free", "()I"⟩ ∈ lw_g := lw_gi (List.mem_append_right _ (List.mem_of_getElem? (i := 412) (by decide +kernel))) rfl
theorem q_413 : Cond.instanceMethod ⟨"FileTree", "free", "()I"⟩ ∈ lw_g := lw_gi (List.mem_append_right _ (List.mem_of_getElem? (i := 413) (by decide +kernel))) rfl
theorem q_414 : Cond.selects "FileTree" ⟨"FileTree", "free", "()I"⟩ ⟨"FileTree", "free", "()I"⟩ ∈ lw_g := lw_gi (List.mem_append_right _ (List.mem_of_getElem? (i := 414) (by decide +kernel))) rfl
theorem q_415 : Cond.code ⟨"FileTree", "free", "()I"⟩ prog_1_method_13_code 1 (Option.some Jvm.ClassFile.FieldType.int) ∈ lw_g := lw_gi (List.mem_append_right _ (List.mem_of_getElem? (i := 415) (by decide +kernel))) rfl
theorem q_416 : Cond.methodLink "FileTree" 165 ⟨"FileTree$Disk", "freeBlocks", "()I"⟩ ∈ lw_g := lw_gi (List.mem_append_right _ (List.mem_of_getElem? (i := 416) (by decide +kernel))) rfl
theorem q_417 : Cond.methodLink "FileTreeLaw" 70 ⟨"FileTree", "forget", "()I"⟩ ∈ lw_g := lw_gi (List.mem_append_right _ (List.mem_of_getElem? (i := 417) (by decide +kernel))) rfl
theorem q_418 : Cond.instanceMethod ⟨"FileTree", "forget", "()I"⟩ ∈ lw_g := lw_gi (List.mem_append_right _ (List.mem_of_getElem? (i := 418) (by decide +kernel))) rfl
theorem q_419 : Cond.selects "FileTree" ⟨"FileTree", "forget", "()I"⟩ ⟨"FileTree", "forget", "()I"⟩ ∈ lw_g := lw_gi (List.mem_append_right _ (List.mem_of_getElem? (i := 419) (by decide +kernel))) rfl
theorem q_420 : Cond.code ⟨"FileTree", "forget", "()I"⟩ prog_1_method_14_code 3 (Option.some Jvm.ClassFile.FieldType.int) ∈ lw_g := lw_gi (List.mem_append_right _ (List.mem_of_getElem? (i := 420) (by decide +kernel))) rfl
theorem q_421 : Cond.methodLink "FileTreeLaw" 74 ⟨"FileTree", "fill", "(III)Z"⟩ ∈ lw_g := lw_gi (List.mem_append_right _ (List.mem_of_getElem? (i := 421) (by decide +kernel))) rfl
theorem q_422 : Cond.instanceMethod ⟨"FileTree", "fill", "(III)Z"⟩ ∈ lw_g := lw_gi (List.mem_append_right _ (List.mem_of_getElem? (i := 422) (by decide +kernel))) rfl
theorem q_423 : Cond.selects "FileTree" ⟨"FileTree", "fill", "(III)Z"⟩ ⟨"FileTree", "fill", "(III)Z"⟩ ∈ lw_g := lw_gi (List.mem_append_right _ (List.mem_of_getElem? (i := 423) (by decide +kernel))) rfl
theorem q_424 : Cond.code ⟨"FileTree", "fill", "(III)Z"⟩ prog_1_method_15_code 5 (Option.some Jvm.ClassFile.FieldType.boolean) ∈ lw_g := lw_gi (List.mem_append_right _ (List.mem_of_getElem? (i := 424) (by decide +kernel))) rfl
theorem q_425 : Cond.methodLink "FileTreeLaw" 79 ⟨"FileTree", "at", "(I)I"⟩ ∈ lw_g := lw_gi (List.mem_append_right _ (List.mem_of_getElem? (i := 425) (by decide +kernel))) rfl
theorem q_426 : Cond.instanceMethod ⟨"FileTree", "at", "(I)I"⟩ ∈ lw_g := lw_gi (List.mem_append_right _ (List.mem_of_getElem? (i := 426) (by decide +kernel))) rfl
theorem q_427 : Cond.selects "FileTree" ⟨"FileTree", "at", "(I)I"⟩ ⟨"FileTree", "at", "(I)I"⟩ ∈ lw_g := lw_gi (List.mem_append_right _ (List.mem_of_getElem? (i := 427) (by decide +kernel))) rfl
theorem q_428 : Cond.code ⟨"FileTree", "at", "(I)I"⟩ prog_1_method_16_code 2 (Option.some Jvm.ClassFile.FieldType.int) ∈ lw_g := lw_gi (List.mem_append_right _ (List.mem_of_getElem? (i := 428) (by decide +kernel))) rfl
theorem q_429 : Cond.methodLink "FileTreeLaw" 83 ⟨"FileTree", "peek", "(II)I"⟩ ∈ lw_g := lw_gi (List.mem_append_right _ (List.mem_of_getElem? (i := 429) (by decide +kernel))) rfl
theorem q_430 : Cond.instanceMethod ⟨"FileTree", "peek", "(II)I"⟩ ∈ lw_g := lw_gi (List.mem_append_right _ (List.mem_of_getElem? (i := 430) (by decide +kernel))) rfl
theorem q_431 : Cond.selects "FileTree" ⟨"FileTree", "peek", "(II)I"⟩ ⟨"FileTree", "peek", "(II)I"⟩ ∈ lw_g := lw_gi (List.mem_append_right _ (List.mem_of_getElem? (i := 431) (by decide +kernel))) rfl
theorem q_432 : Cond.code ⟨"FileTree", "peek", "(II)I"⟩ prog_1_method_17_code 3 (Option.some Jvm.ClassFile.FieldType.int) ∈ lw_g := lw_gi (List.mem_append_right _ (List.mem_of_getElem? (i := 432) (by decide +kernel))) rfl
theorem q_433 : Cond.classLink "FileTreeLaw" 10 "FileTreeModel" ∈ lw_g := lw_gi (List.mem_append_right _ (List.mem_of_getElem? (i := 433) (by decide +kernel))) rfl
theorem q_434 : Cond.instantiable "FileTreeModel" 18 ∈ lw_g := lw_gi (List.mem_append_right _ (List.mem_of_getElem? (i := 434) (by decide +kernel))) rfl
theorem q_435 : Cond.methodLink "FileTreeLaw" 12 ⟨"FileTreeModel", "<init>", "()V"⟩ ∈ lw_g := lw_gi (List.mem_append_right _ (List.mem_of_getElem? (i := 435) (by decide +kernel))) rfl
theorem q_436 : Cond.instanceMethod ⟨"FileTreeModel", "<init>", "()V"⟩ ∈ lw_g := lw_gi (List.mem_append_right _ (List.mem_of_getElem? (i := 436) (by decide +kernel))) rfl
theorem q_437 : Cond.code ⟨"FileTreeModel", "<init>", "()V"⟩ prog_7_method_1_code 2 (Option.none : Option Jvm.ClassFile.FieldType) ∈ lw_g := lw_gi (List.mem_append_right _ (List.mem_of_getElem? (i := 437) (by decide +kernel))) rfl
theorem q_438 : Cond.methodLink "FileTreeModel" 1 ⟨"java/lang/Object", "<init>", "()V"⟩ ∈ lw_g := lw_gi (List.mem_append_right _ (List.mem_of_getElem? (i := 438) (by decide +kernel))) rfl
theorem q_439 : Cond.constant "FileTreeModel" 16 524288 ∈ lw_g := lw_gi (List.mem_append_right _ (List.mem_of_getElem? (i := 439) (by decide +kernel))) rfl
theorem q_440 : Cond.constant "FileTreeModel" 49 270544960 ∈ lw_g := lw_gi (List.mem_append_right _ (List.mem_of_getElem? (i := 440) (by decide +kernel))) rfl
theorem q_441 : Cond.methodLink "FileTreeModel" 56 ⟨"FileTreeModel", "begins", "(II)V"⟩ ∈ lw_g := lw_gi (List.mem_append_right _ (List.mem_of_getElem? (i := 441) (by decide +kernel))) rfl
theorem q_443 : Cond.instanceMethod ⟨"FileTreeModel", "begins", "(II)V"⟩ ∈ lw_g := lw_gi (List.mem_append_right _ (List.mem_of_getElem? (i := 443) (by decide +kernel))) rfl
theorem q_444 : Cond.code ⟨"FileTreeModel", "begins", "(II)V"⟩ prog_7_method_21_code 3 (Option.none : Option Jvm.ClassFile.FieldType) ∈ lw_g := lw_gi (List.mem_append_right _ (List.mem_of_getElem? (i := 444) (by decide +kernel))) rfl
theorem q_445 : Cond.methodLink "FileTreeModel" 95 ⟨"FileTreeModel", "grow", "(I)V"⟩ ∈ lw_g := lw_gi (List.mem_append_right _ (List.mem_of_getElem? (i := 445) (by decide +kernel))) rfl
theorem q_447 : Cond.instanceMethod ⟨"FileTreeModel", "grow", "(I)V"⟩ ∈ lw_g := lw_gi (List.mem_append_right _ (List.mem_of_getElem? (i := 447) (by decide +kernel))) rfl
theorem q_448 : Cond.code ⟨"FileTreeModel", "grow", "(I)V"⟩ prog_7_method_7_code 3 (Option.none : Option Jvm.ClassFile.FieldType) ∈ lw_g := lw_gi (List.mem_append_right _ (List.mem_of_getElem? (i := 448) (by decide +kernel))) rfl
theorem q_449 : Cond.methodLink "FileTreeModel" 64 ⟨"FileTreeModel", "take", "()I"⟩ ∈ lw_g := lw_gi (List.mem_append_right _ (List.mem_of_getElem? (i := 449) (by decide +kernel))) rfl
theorem q_451 : Cond.instanceMethod ⟨"FileTreeModel", "take", "()I"⟩ ∈ lw_g := lw_gi (List.mem_append_right _ (List.mem_of_getElem? (i := 451) (by decide +kernel))) rfl
theorem q_452 : Cond.code ⟨"FileTreeModel", "take", "()I"⟩ prog_7_method_4_code 3 (Option.some Jvm.ClassFile.FieldType.int) ∈ lw_g := lw_gi (List.mem_append_right _ (List.mem_of_getElem? (i := 452) (by decide +kernel))) rfl
theorem q_453 : Cond.methodLink "FileTreeModel" 68 ⟨"FileTreeModel", "putNumber", "(III)V"⟩ ∈ lw_g := lw_gi (List.mem_append_right _ (List.mem_of_getElem? (i := 453) (by decide +kernel))) rfl
theorem q_455 : Cond.instanceMethod ⟨"FileTreeModel", "putNumber", "(III)V"⟩ ∈ lw_g := lw_gi (List.mem_append_right _ (List.mem_of_getElem? (i := 455) (by decide +kernel))) rfl
theorem q_456 : Cond.code ⟨"FileTreeModel", "putNumber", "(III)V"⟩ prog_7_method_5_code 5 (Option.none : Option Jvm.ClassFile.FieldType) ∈ lw_g := lw_gi (List.mem_append_right _ (List.mem_of_getElem? (i := 456) (by decide +kernel))) rfl
theorem q_457 : Cond.methodLink "FileTreeModel" 101 ⟨"FileTreeModel", "dots", "(I)V"⟩ ∈ lw_g := lw_gi (List.mem_append_right _ (List.mem_of_getElem? (i := 457) (by decide +kernel))) rfl
theorem q_459 : Cond.instanceMethod ⟨"FileTreeModel", "dots", "(I)V"⟩ ∈ lw_g := lw_gi (List.mem_append_right _ (List.mem_of_getElem? (i := 459) (by decide +kernel))) rfl
theorem q_460 : Cond.code ⟨"FileTreeModel", "dots", "(I)V"⟩ prog_7_method_20_code 3 (Option.none : Option Jvm.ClassFile.FieldType) ∈ lw_g := lw_gi (List.mem_append_right _ (List.mem_of_getElem? (i := 460) (by decide +kernel))) rfl
theorem q_461 : Cond.methodLink "FileTreeModel" 98 ⟨"FileTreeModel", "lay", "(III)V"⟩ ∈ lw_g := lw_gi (List.mem_append_right _ (List.mem_of_getElem? (i := 461) (by decide +kernel))) rfl
theorem q_463 : Cond.instanceMethod ⟨"FileTreeModel", "lay", "(III)V"⟩ ∈ lw_g := lw_gi (List.mem_append_right _ (List.mem_of_getElem? (i := 463) (by decide +kernel))) rfl
theorem q_464 : Cond.code ⟨"FileTreeModel", "lay", "(III)V"⟩ prog_7_method_17_code 6 (Option.none : Option Jvm.ClassFile.FieldType) ∈ lw_g := lw_gi (List.mem_append_right _ (List.mem_of_getElem? (i := 464) (by decide +kernel))) rfl
theorem q_465 : Cond.methodLink "FileTreeModel" 80 ⟨"FileTreeModel", "place", "(II)I"⟩ ∈ lw_g := lw_gi (List.mem_append_right _ (List.mem_of_getElem? (i := 465) (by decide +kernel))) rfl
theorem q_467 : Cond.instanceMethod ⟨"FileTreeModel", "place", "(II)I"⟩ ∈ lw_g := lw_gi (List.mem_append_right _ (List.mem_of_getElem? (i := 467) (by decide +kernel))) rfl
theorem q_468 : Cond.code ⟨"FileTreeModel", "place", "(II)I"⟩ prog_7_method_10_code 3 (Option.some Jvm.ClassFile.FieldType.int) ∈ lw_g := lw_gi (List.mem_append_right _ (List.mem_of_getElem? (i := 468) (by decide +kernel))) rfl
theorem q_469 : Cond.fieldLink "FileTreeModel" 60 "FileTreeModel" "thrown" "I" ∈ lw_g := lw_gi (List.mem_append_right _ (List.mem_of_getElem? (i := 469) (by decide +kernel))) rfl
theorem q_470 : Cond.fieldLink "FileTreeModel" 130 "FileTreeModel" "typed" "I" ∈ lw_g := lw_gi (List.mem_append_right _ (List.mem_of_getElem? (i := 470) (by decide +kernel))) rfl
theorem q_471 : Cond.fieldLink "FileTreeModel" 7 "FileTreeModel" "text" "[B" ∈ lw_g := lw_gi (List.mem_append_right _ (List.mem_of_getElem? (i := 471) (by decide +kernel))) rfl
theorem q_472 : Cond.fieldLink "FileTreeModel" 13 "FileTreeModel" "buffer" "[B" ∈ lw_g := lw_gi (List.mem_append_right _ (List.mem_of_getElem? (i := 472) (by decide +kernel))) rfl
theorem q_473 : Cond.fieldLink "FileTreeModel" 17 "FileTreeModel" "disk" "[B" ∈ lw_g := lw_gi (List.mem_append_right _ (List.mem_of_getElem? (i := 473) (by decide +kernel))) rfl
theorem q_474 : Cond.fieldLink "FileTreeModel" 20 "FileTreeModel" "used" "[Z" ∈ lw_g := lw_gi (List.mem_append_right _ (List.mem_of_getElem? (i := 474) (by decide +kernel))) rfl
theorem q_475 : Cond.fieldLink "FileTreeModel" 24 "FileTreeModel" "kind" "[I" ∈ lw_g := lw_gi (List.mem_append_right _ (List.mem_of_getElem? (i := 475) (by decide +kernel))) rfl
theorem q_476 : Cond.fieldLink "FileTreeModel" 28 "FileTreeModel" "major" "[I" ∈ lw_g := lw_gi (List.mem_append_right _ (List.mem_of_getElem? (i := 476) (by decide +kernel))) rfl
theorem q_477 : Cond.fieldLink "FileTreeModel" 31 "FileTreeModel" "minor" "[I" ∈ lw_g := lw_gi (List.mem_append_right _ (List.mem_of_getElem? (i := 477) (by decide +kernel))) rfl
theorem q_478 : Cond.fieldLink "FileTreeModel" 34 "FileTreeModel" "links" "[I" ∈ lw_g := lw_gi (List.mem_append_right _ (List.mem_of_getElem? (i := 478) (by decide +kernel))) rfl
theorem q_479 : Cond.fieldLink "FileTreeModel" 37 "FileTreeModel" "size" "[I" ∈ lw_g := lw_gi (List.mem_append_right _ (List.mem_of_getElem? (i := 479) (by decide +kernel))) rfl
theorem q_480 : Cond.fieldLink "FileTreeModel" 40 "FileTreeModel" "held" "[I" ∈ lw_g := lw_gi (List.mem_append_right _ (List.mem_of_getElem? (i := 480) (by decide +kernel))) rfl
theorem q_481 : Cond.fieldLink "FileTreeModel" 43 "FileTreeModel" "many" "[I" ∈ lw_g := lw_gi (List.mem_append_right _ (List.mem_of_getElem? (i := 481) (by decide +kernel))) rfl
theorem q_482 : Cond.fieldLink "FileTreeModel" 46 "FileTreeModel" "blocks" "[I" ∈ lw_g := lw_gi (List.mem_append_right _ (List.mem_of_getElem? (i := 482) (by decide +kernel))) rfl
theorem q_483 : Cond.fieldLink "FileTreeModel" 50 "FileTreeModel" "numbers" "[I" ∈ lw_g := lw_gi (List.mem_append_right _ (List.mem_of_getElem? (i := 483) (by decide +kernel))) rfl
theorem q_484 : Cond.fieldLink "FileTreeModel" 104 "FileTreeModel" "p" "I" ∈ lw_g := lw_gi (List.mem_append_right _ (List.mem_of_getElem? (i := 484) (by decide +kernel))) rfl
theorem q_485 : Cond.fieldLink "FileTreeModel" 107 "FileTreeModel" "end" "I" ∈ lw_g := lw_gi (List.mem_append_right _ (List.mem_of_getElem? (i := 485) (by decide +kernel))) rfl
theorem q_486 : Cond.fieldLink "FileTreeModel" 53 "FileTreeModel" "name" "[B" ∈ lw_g := lw_gi (List.mem_append_right _ (List.mem_of_getElem? (i := 486) (by decide +kernel))) rfl
theorem q_524 : Cond.arrayClass (Jvm.ClassFile.FieldType.boolean) ∈ lw_g := lw_gi (List.mem_append_right _ (List.mem_of_getElem? (i := 524) (by decide +kernel))) rfl
theorem q_525 : Cond.methodLink "FileTreeLaw" 19 ⟨"FileTreeModel", "write", "(J)Z"⟩ ∈ lw_g := lw_gi (List.mem_append_right _ (List.mem_of_getElem? (i := 525) (by decide +kernel))) rfl
theorem q_526 : Cond.instanceMethod ⟨"FileTreeModel", "write", "(J)Z"⟩ ∈ lw_g := lw_gi (List.mem_append_right _ (List.mem_of_getElem? (i := 526) (by decide +kernel))) rfl
theorem q_527 : Cond.selects "FileTreeModel" ⟨"FileTreeModel", "write", "(J)Z"⟩ ⟨"FileTreeModel", "write", "(J)Z"⟩ ∈ lw_g := lw_gi (List.mem_append_right _ (List.mem_of_getElem? (i := 527) (by decide +kernel))) rfl
theorem q_528 : Cond.code ⟨"FileTreeModel", "write", "(J)Z"⟩ prog_7_method_29_code 6 (Option.some Jvm.ClassFile.FieldType.boolean) ∈ lw_g := lw_gi (List.mem_append_right _ (List.mem_of_getElem? (i := 528) (by decide +kernel))) rfl
theorem q_529 : Cond.constantLong "FileTreeModel" 133 255 ∈ lw_g := lw_gi (List.mem_append_right _ (List.mem_of_getElem? (i := 529) (by decide +kernel))) rfl
theorem q_530 : Cond.methodLink "FileTreeLaw" 24 ⟨"FileTreeModel", "find", "(I)I"⟩ ∈ lw_g := lw_gi (List.mem_append_right _ (List.mem_of_getElem? (i := 530) (by decide +kernel))) rfl
theorem q_531 : Cond.instanceMethod ⟨"FileTreeModel", "find", "(I)I"⟩ ∈ lw_g := lw_gi (List.mem_append_right _ (List.mem_of_getElem? (i := 531) (by decide +kernel))) rfl
theorem q_532 : Cond.selects "FileTreeModel" ⟨"FileTreeModel", "find", "(I)I"⟩ ⟨"FileTreeModel", "find", "(I)I"⟩ ∈ lw_g := lw_gi (List.mem_append_right _ (List.mem_of_getElem? (i := 532) (by decide +kernel))) rfl
theorem q_533 : Cond.code ⟨"FileTreeModel", "find", "(I)I"⟩ prog_7_method_31_code 3 (Option.some Jvm.ClassFile.FieldType.int) ∈ lw_g := lw_gi (List.mem_append_right _ (List.mem_of_getElem? (i := 533) (by decide +kernel))) rfl
theorem q_534 : Cond.methodLink "FileTreeModel" 135 ⟨"FileTreeModel", "taken", "()I"⟩ ∈ lw_g := lw_gi (List.mem_append_right _ (List.mem_of_getElem? (i := 534) (by decide +kernel))) rfl
theorem q_536 : Cond.instanceMethod ⟨"FileTreeModel", "taken", "()I"⟩ ∈ lw_g := lw_gi (List.mem_append_right _ (List.mem_of_getElem? (i := 536) (by decide +kernel))) rfl
theorem q_537 : Cond.code ⟨"FileTreeModel", "taken", "()I"⟩ prog_7_method_30_code 2 (Option.some Jvm.ClassFile.FieldType.int) ∈ lw_g := lw_gi (List.mem_append_right _ (List.mem_of_getElem? (i := 537) (by decide +kernel))) rfl
theorem q_538 : Cond.methodLink "FileTreeModel" 138 ⟨"FileTreeModel", "leads", "(III)I"⟩ ∈ lw_g := lw_gi (List.mem_append_right _ (List.mem_of_getElem? (i := 538) (by decide +kernel))) rfl
theorem q_540 : Cond.instanceMethod ⟨"FileTreeModel", "leads", "(III)I"⟩ ∈ lw_g := lw_gi (List.mem_append_right _ (List.mem_of_getElem? (i := 540) (by decide +kernel))) rfl
theorem q_541 : Cond.code ⟨"FileTreeModel", "leads", "(III)I"⟩ prog_7_method_27_code 5 (Option.some Jvm.ClassFile.FieldType.int) ∈ lw_g := lw_gi (List.mem_append_right _ (List.mem_of_getElem? (i := 541) (by decide +kernel))) rfl
theorem q_542 : Cond.methodLink "FileTreeModel" 119 ⟨"FileTreeModel", "begin", "(III)I"⟩ ∈ lw_g := lw_gi (List.mem_append_right _ (List.mem_of_getElem? (i := 542) (by decide +kernel))) rfl
theorem q_544 : Cond.instanceMethod ⟨"FileTreeModel", "begin", "(III)I"⟩ ∈ lw_g := lw_gi (List.mem_append_right _ (List.mem_of_getElem? (i := 544) (by decide +kernel))) rfl
theorem q_545 : Cond.code ⟨"FileTreeModel", "begin", "(III)I"⟩ prog_7_method_25_code 6 (Option.some Jvm.ClassFile.FieldType.int) ∈ lw_g := lw_gi (List.mem_append_right _ (List.mem_of_getElem? (i := 545) (by decide +kernel))) rfl
theorem q_546 : Cond.methodLink "FileTreeModel" 113 ⟨"FileTreeModel", "there", "(I)Z"⟩ ∈ lw_g := lw_gi (List.mem_append_right _ (List.mem_of_getElem? (i := 546) (by decide +kernel))) rfl
theorem q_548 : Cond.instanceMethod ⟨"FileTreeModel", "there", "(I)Z"⟩ ∈ lw_g := lw_gi (List.mem_append_right _ (List.mem_of_getElem? (i := 548) (by decide +kernel))) rfl
theorem q_549 : Cond.code ⟨"FileTreeModel", "there", "(I)Z"⟩ prog_7_method_12_code 2 (Option.some Jvm.ClassFile.FieldType.boolean) ∈ lw_g := lw_gi (List.mem_append_right _ (List.mem_of_getElem? (i := 549) (by decide +kernel))) rfl
theorem q_550 : Cond.methodLink "FileTreeModel" 76 ⟨"FileTreeModel", "isInode", "(I)Z"⟩ ∈ lw_g := lw_gi (List.mem_append_right _ (List.mem_of_getElem? (i := 550) (by decide +kernel))) rfl
theorem q_551 : Cond.static ⟨"FileTreeModel", "isInode", "(I)Z"⟩ ∈ lw_g := lw_gi (List.mem_append_right _ (List.mem_of_getElem? (i := 551) (by decide +kernel))) rfl
theorem q_552 : Cond.code ⟨"FileTreeModel", "isInode", "(I)Z"⟩ prog_7_method_11_code 1 (Option.some Jvm.ClassFile.FieldType.boolean) ∈ lw_g := lw_gi (List.mem_append_right _ (List.mem_of_getElem? (i := 552) (by decide +kernel))) rfl
theorem q_553 : Cond.methodLink "FileTreeModel" 123 ⟨"FileTreeModel", "named", "()Z"⟩ ∈ lw_g := lw_gi (List.mem_append_right _ (List.mem_of_getElem? (i := 553) (by decide +kernel))) rfl
theorem q_555 : Cond.instanceMethod ⟨"FileTreeModel", "named", "()Z"⟩ ∈ lw_g := lw_gi (List.mem_append_right _ (List.mem_of_getElem? (i := 555) (by decide +kernel))) rfl
theorem q_556 : Cond.code ⟨"FileTreeModel", "named", "()Z"⟩ prog_7_method_24_code 3 (Option.some Jvm.ClassFile.FieldType.boolean) ∈ lw_g := lw_gi (List.mem_append_right _ (List.mem_of_getElem? (i := 556) (by decide +kernel))) rfl
theorem q_557 : Cond.methodLink "FileTreeModel" 110 ⟨"FileTreeModel", "slashes", "()V"⟩ ∈ lw_g := lw_gi (List.mem_append_right _ (List.mem_of_getElem? (i := 557) (by decide +kernel))) rfl
theorem q_559 : Cond.instanceMethod ⟨"FileTreeModel", "slashes", "()V"⟩ ∈ lw_g := lw_gi (List.mem_append_right _ (List.mem_of_getElem? (i := 559) (by decide +kernel))) rfl
theorem q_560 : Cond.code ⟨"FileTreeModel", "slashes", "()V"⟩ prog_7_method_23_code 1 (Option.none : Option Jvm.ClassFile.FieldType) ∈ lw_g := lw_gi (List.mem_append_right _ (List.mem_of_getElem? (i := 560) (by decide +kernel))) rfl
theorem q_561 : Cond.methodLink "FileTreeModel" 127 ⟨"FileTreeModel", "step", "(I)I"⟩ ∈ lw_g := lw_gi (List.mem_append_right _ (List.mem_of_getElem? (i := 561) (by decide +kernel))) rfl
theorem q_563 : Cond.instanceMethod ⟨"FileTreeModel", "step", "(I)I"⟩ ∈ lw_g := lw_gi (List.mem_append_right _ (List.mem_of_getElem? (i := 563) (by decide +kernel))) rfl
theorem q_564 : Cond.code ⟨"FileTreeModel", "step", "(I)I"⟩ prog_7_method_26_code 3 (Option.some Jvm.ClassFile.FieldType.int) ∈ lw_g := lw_gi (List.mem_append_right _ (List.mem_of_getElem? (i := 564) (by decide +kernel))) rfl
theorem q_565 : Cond.methodLink "FileTreeModel" 116 ⟨"FileTreeModel", "entry", "(I)I"⟩ ∈ lw_g := lw_gi (List.mem_append_right _ (List.mem_of_getElem? (i := 565) (by decide +kernel))) rfl
theorem q_567 : Cond.instanceMethod ⟨"FileTreeModel", "entry", "(I)I"⟩ ∈ lw_g := lw_gi (List.mem_append_right _ (List.mem_of_getElem? (i := 567) (by decide +kernel))) rfl
theorem q_568 : Cond.code ⟨"FileTreeModel", "entry", "(I)I"⟩ prog_7_method_14_code 6 (Option.some Jvm.ClassFile.FieldType.int) ∈ lw_g := lw_gi (List.mem_append_right _ (List.mem_of_getElem? (i := 568) (by decide +kernel))) rfl
theorem q_569 : Cond.methodLink "FileTreeModel" 84 ⟨"FileTreeModel", "numberAt", "(II)I"⟩ ∈ lw_g := lw_gi (List.mem_append_right _ (List.mem_of_getElem? (i := 569) (by decide +kernel))) rfl
theorem q_571 : Cond.instanceMethod ⟨"FileTreeModel", "numberAt", "(II)I"⟩ ∈ lw_g := lw_gi (List.mem_append_right _ (List.mem_of_getElem? (i := 571) (by decide +kernel))) rfl
theorem q_572 : Cond.code ⟨"FileTreeModel", "numberAt", "(II)I"⟩ prog_7_method_13_code 4 (Option.some Jvm.ClassFile.FieldType.int) ∈ lw_g := lw_gi (List.mem_append_right _ (List.mem_of_getElem? (i := 572) (by decide +kernel))) rfl
theorem q_573 : Cond.methodLink "FileTreeLaw" 29 ⟨"FileTreeModel", "create", "(IIII)I"⟩ ∈ lw_g := lw_gi (List.mem_append_right _ (List.mem_of_getElem? (i := 573) (by decide +kernel))) rfl
theorem q_574 : Cond.instanceMethod ⟨"FileTreeModel", "create", "(IIII)I"⟩ ∈ lw_g := lw_gi (List.mem_append_right _ (List.mem_of_getElem? (i := 574) (by decide +kernel))) rfl
theorem q_575 : Cond.selects "FileTreeModel" ⟨"FileTreeModel", "create", "(IIII)I"⟩ ⟨"FileTreeModel", "create", "(IIII)I"⟩ ∈ lw_g := lw_gi (List.mem_append_right _ (List.mem_of_getElem? (i := 575) (by decide +kernel))) rfl
theorem q_576 : Cond.code ⟨"FileTreeModel", "create", "(IIII)I"⟩ prog_7_method_32_code 8 (Option.some Jvm.ClassFile.FieldType.int) ∈ lw_g := lw_gi (List.mem_append_right _ (List.mem_of_getElem? (i := 576) (by decide +kernel))) rfl
theorem q_577 : Cond.methodLink "FileTreeModel" 141 ⟨"FileTreeModel", "before", "(III)I"⟩ ∈ lw_g := lw_gi (List.mem_append_right _ (List.mem_of_getElem? (i := 577) (by decide +kernel))) rfl
theorem q_579 : Cond.instanceMethod ⟨"FileTreeModel", "before", "(III)I"⟩ ∈ lw_g := lw_gi (List.mem_append_right _ (List.mem_of_getElem? (i := 579) (by decide +kernel))) rfl
theorem q_580 : Cond.code ⟨"FileTreeModel", "before", "(III)I"⟩ prog_7_method_28_code 7 (Option.some Jvm.ClassFile.FieldType.int) ∈ lw_g := lw_gi (List.mem_append_right _ (List.mem_of_getElem? (i := 580) (by decide +kernel))) rfl
theorem q_581 : Cond.methodLink "FileTreeModel" 144 ⟨"FileTreeModel", "wants", "(I)I"⟩ ∈ lw_g := lw_gi (List.mem_append_right _ (List.mem_of_getElem? (i := 581) (by decide +kernel))) rfl
theorem q_583 : Cond.instanceMethod ⟨"FileTreeModel", "wants", "(I)I"⟩ ∈ lw_g := lw_gi (List.mem_append_right _ (List.mem_of_getElem? (i := 583) (by decide +kernel))) rfl
theorem q_584 : Cond.code ⟨"FileTreeModel", "wants", "(I)I"⟩ prog_7_method_16_code 3 (Option.some Jvm.ClassFile.FieldType.int) ∈ lw_g := lw_gi (List.mem_append_right _ (List.mem_of_getElem? (i := 584) (by decide +kernel))) rfl
theorem q_585 : Cond.methodLink "FileTreeModel" 87 ⟨"FileTreeModel", "vacant", "(I)I"⟩ ∈ lw_g := lw_gi (List.mem_append_right _ (List.mem_of_getElem? (i := 585) (by decide +kernel))) rfl
theorem q_587 : Cond.instanceMethod ⟨"FileTreeModel", "vacant", "(I)I"⟩ ∈ lw_g := lw_gi (List.mem_append_right _ (List.mem_of_getElem? (i := 587) (by decide +kernel))) rfl
theorem q_588 : Cond.code ⟨"FileTreeModel", "vacant", "(I)I"⟩ prog_7_method_15_code 3 (Option.some Jvm.ClassFile.FieldType.int) ∈ lw_g := lw_gi (List.mem_append_right _ (List.mem_of_getElem? (i := 588) (by decide +kernel))) rfl
theorem q_589 : Cond.constant "FileTreeModel" 91 274432 ∈ lw_g := lw_gi (List.mem_append_right _ (List.mem_of_getElem? (i := 589) (by decide +kernel))) rfl
theorem q_590 : Cond.methodLink "FileTreeModel" 92 ⟨"FileTreeModel", "next", "(I)I"⟩ ∈ lw_g := lw_gi (List.mem_append_right _ (List.mem_of_getElem? (i := 590) (by decide +kernel))) rfl
theorem q_592 : Cond.instanceMethod ⟨"FileTreeModel", "next", "(I)I"⟩ ∈ lw_g := lw_gi (List.mem_append_right _ (List.mem_of_getElem? (i := 592) (by decide +kernel))) rfl
theorem q_593 : Cond.code ⟨"FileTreeModel", "next", "(I)I"⟩ prog_7_method_6_code 2 (Option.some Jvm.ClassFile.FieldType.int) ∈ lw_g := lw_gi (List.mem_append_right _ (List.mem_of_getElem? (i := 593) (by decide +kernel))) rfl
theorem q_594 : Cond.methodLink "FileTreeModel" 147 ⟨"FileTreeModel", "left", "()I"⟩ ∈ lw_g := lw_gi (List.mem_append_right _ (List.mem_of_getElem? (i := 594) (by decide +kernel))) rfl
theorem q_596 : Cond.instanceMethod ⟨"FileTreeModel", "left", "()I"⟩ ∈ lw_g := lw_gi (List.mem_append_right _ (List.mem_of_getElem? (i := 596) (by decide +kernel))) rfl
theorem q_597 : Cond.code ⟨"FileTreeModel", "left", "()I"⟩ prog_7_method_3_code 3 (Option.some Jvm.ClassFile.FieldType.int) ∈ lw_g := lw_gi (List.mem_append_right _ (List.mem_of_getElem? (i := 597) (by decide +kernel))) rfl
theorem q_598 : Cond.constant "FileTreeModel" 150 65535 ∈ lw_g := lw_gi (List.mem_append_right _ (List.mem_of_getElem? (i := 598) (by decide +kernel))) rfl
theorem q_599 : Cond.methodLink "FileTreeModel" 151 ⟨"FileTreeModel", "again", "()V"⟩ ∈ lw_g := lw_gi (List.mem_append_right _ (List.mem_of_getElem? (i := 599) (by decide +kernel))) rfl
theorem q_601 : Cond.instanceMethod ⟨"FileTreeModel", "again", "()V"⟩ ∈ lw_g := lw_gi (List.mem_append_right _ (List.mem_of_getElem? (i := 601) (by decide +kernel))) rfl
theorem q_602 : Cond.code ⟨"FileTreeModel", "again", "()V"⟩ prog_7_method_33_code 3 (Option.none : Option Jvm.ClassFile.FieldType) ∈ lw_g := lw_gi (List.mem_append_right _ (List.mem_of_getElem? (i := 602) (by decide +kernel))) rfl
theorem q_603 : Cond.methodLink "FileTreeModel" 154 ⟨"FileTreeModel", "enter", "(II)V"⟩ ∈ lw_g := lw_gi (List.mem_append_right _ (List.mem_of_getElem? (i := 603) (by decide +kernel))) rfl
theorem q_605 : Cond.instanceMethod ⟨"FileTreeModel", "enter", "(II)V"⟩ ∈ lw_g := lw_gi (List.mem_append_right _ (List.mem_of_getElem? (i := 605) (by decide +kernel))) rfl
theorem q_606 : Cond.code ⟨"FileTreeModel", "enter", "(II)V"⟩ prog_7_method_18_code 4 (Option.none : Option Jvm.ClassFile.FieldType) ∈ lw_g := lw_gi (List.mem_append_right _ (List.mem_of_getElem? (i := 606) (by decide +kernel))) rfl
theorem q_607 : Cond.methodLink "FileTreeLaw" 33 ⟨"FileTreeModel", "link", "(I)I"⟩ ∈ lw_g := lw_gi (List.mem_append_right _ (List.mem_of_getElem? (i := 607) (by decide +kernel))) rfl
theorem q_608 : Cond.instanceMethod ⟨"FileTreeModel", "link", "(I)I"⟩ ∈ lw_g := lw_gi (List.mem_append_right _ (List.mem_of_getElem? (i := 608) (by decide +kernel))) rfl
theorem q_609 : Cond.selects "FileTreeModel" ⟨"FileTreeModel", "link", "(I)I"⟩ ⟨"FileTreeModel", "link", "(I)I"⟩ ∈ lw_g := lw_gi (List.mem_append_right _ (List.mem_of_getElem? (i := 609) (by decide +kernel))) rfl
theorem q_610 : Cond.code ⟨"FileTreeModel", "link", "(I)I"⟩ prog_7_method_34_code 6 (Option.some Jvm.ClassFile.FieldType.int) ∈ lw_g := lw_gi (List.mem_append_right _ (List.mem_of_getElem? (i := 610) (by decide +kernel))) rfl
theorem q_611 : Cond.methodLink "FileTreeLaw" 37 ⟨"FileTreeModel", "unlink", "(I)I"⟩ ∈ lw_g := lw_gi (List.mem_append_right _ (List.mem_of_getElem? (i := 611) (by decide +kernel))) rfl
theorem q_612 : Cond.instanceMethod ⟨"FileTreeModel", "unlink", "(I)I"⟩ ∈ lw_g := lw_gi (List.mem_append_right _ (List.mem_of_getElem? (i := 612) (by decide +kernel))) rfl
theorem q_613 : Cond.selects "FileTreeModel" ⟨"FileTreeModel", "unlink", "(I)I"⟩ ⟨"FileTreeModel", "unlink", "(I)I"⟩ ∈ lw_g := lw_gi (List.mem_append_right _ (List.mem_of_getElem? (i := 613) (by decide +kernel))) rfl
theorem q_614 : Cond.code ⟨"FileTreeModel", "unlink", "(I)I"⟩ prog_7_method_36_code 6 (Option.some Jvm.ClassFile.FieldType.int) ∈ lw_g := lw_gi (List.mem_append_right _ (List.mem_of_getElem? (i := 614) (by decide +kernel))) rfl
theorem q_615 : Cond.methodLink "FileTreeModel" 157 ⟨"FileTreeModel", "isDots", "()Z"⟩ ∈ lw_g := lw_gi (List.mem_append_right _ (List.mem_of_getElem? (i := 615) (by decide +kernel))) rfl
theorem q_617 : Cond.instanceMethod ⟨"FileTreeModel", "isDots", "()Z"⟩ ∈ lw_g := lw_gi (List.mem_append_right _ (List.mem_of_getElem? (i := 617) (by decide +kernel))) rfl
theorem q_618 : Cond.code ⟨"FileTreeModel", "isDots", "()Z"⟩ prog_7_method_22_code 1 (Option.some Jvm.ClassFile.FieldType.boolean) ∈ lw_g := lw_gi (List.mem_append_right _ (List.mem_of_getElem? (i := 618) (by decide +kernel))) rfl
theorem q_619 : Cond.methodLink "FileTreeModel" 160 ⟨"FileTreeModel", "isBare", "(I)Z"⟩ ∈ lw_g := lw_gi (List.mem_append_right _ (List.mem_of_getElem? (i := 619) (by decide +kernel))) rfl
theorem q_621 : Cond.instanceMethod ⟨"FileTreeModel", "isBare", "(I)Z"⟩ ∈ lw_g := lw_gi (List.mem_append_right _ (List.mem_of_getElem? (i := 621) (by decide +kernel))) rfl
theorem q_622 : Cond.code ⟨"FileTreeModel", "isBare", "(I)Z"⟩ prog_7_method_35_code 4 (Option.some Jvm.ClassFile.FieldType.boolean) ∈ lw_g := lw_gi (List.mem_append_right _ (List.mem_of_getElem? (i := 622) (by decide +kernel))) rfl
theorem q_623 : Cond.methodLink "FileTreeModel" 163 ⟨"FileTreeModel", "erase", "(II)V"⟩ ∈ lw_g := lw_gi (List.mem_append_right _ (List.mem_of_getElem? (i := 623) (by decide +kernel))) rfl
theorem q_625 : Cond.instanceMethod ⟨"FileTreeModel", "erase", "(II)V"⟩ ∈ lw_g := lw_gi (List.mem_append_right _ (List.mem_of_getElem? (i := 625) (by decide +kernel))) rfl
theorem q_626 : Cond.code ⟨"FileTreeModel", "erase", "(II)V"⟩ prog_7_method_19_code 5 (Option.none : Option Jvm.ClassFile.FieldType) ∈ lw_g := lw_gi (List.mem_append_right _ (List.mem_of_getElem? (i := 626) (by decide +kernel))) rfl
theorem q_627 : Cond.methodLink "FileTreeModel" 166 ⟨"FileTreeModel", "ends", "(I)Z"⟩ ∈ lw_g := lw_gi (List.mem_append_right _ (List.mem_of_getElem? (i := 627) (by decide +kernel))) rfl
theorem q_629 : Cond.instanceMethod ⟨"FileTreeModel", "ends", "(I)Z"⟩ ∈ lw_g := lw_gi (List.mem_append_right _ (List.mem_of_getElem? (i := 629) (by decide +kernel))) rfl
theorem q_630 : Cond.code ⟨"FileTreeModel", "ends", "(I)Z"⟩ prog_7_method_9_code 2 (Option.some Jvm.ClassFile.FieldType.boolean) ∈ lw_g := lw_gi (List.mem_append_right _ (List.mem_of_getElem? (i := 630) (by decide +kernel))) rfl
theorem q_631 : Cond.methodLink "FileTreeModel" 72 ⟨"FileTreeModel", "empty", "(I)V"⟩ ∈ lw_g := lw_gi (List.mem_append_right _ (List.mem_of_getElem? (i := 631) (by decide +kernel))) rfl
theorem q_633 : Cond.instanceMethod ⟨"FileTreeModel", "empty", "(I)V"⟩ ∈ lw_g := lw_gi (List.mem_append_right _ (List.mem_of_getElem? (i := 633) (by decide +kernel))) rfl
theorem q_634 : Cond.code ⟨"FileTreeModel", "empty", "(I)V"⟩ prog_7_method_8_code 3 (Option.none : Option Jvm.ClassFile.FieldType) ∈ lw_g := lw_gi (List.mem_append_right _ (List.mem_of_getElem? (i := 634) (by decide +kernel))) rfl
theorem q_635 : Cond.methodLink "FileTreeLaw" 42 ⟨"FileTreeModel", "hold", "(I)Z"⟩ ∈ lw_g := lw_gi (List.mem_append_right _ (List.mem_of_getElem? (i := 635) (by decide +kernel))) rfl
theorem q_636 : Cond.instanceMethod ⟨"FileTreeModel", "hold", "(I)Z"⟩ ∈ lw_g := lw_gi (List.mem_append_right _ (List.mem_of_getElem? (i := 636) (by decide +kernel))) rfl
theorem q_637 : Cond.selects "FileTreeModel" ⟨"FileTreeModel", "hold", "(I)Z"⟩ ⟨"FileTreeModel", "hold", "(I)Z"⟩ ∈ lw_g := lw_gi (List.mem_append_right _ (List.mem_of_getElem? (i := 637) (by decide +kernel))) rfl
theorem q_638 : Cond.code ⟨"FileTreeModel", "hold", "(I)Z"⟩ prog_7_method_37_code 2 (Option.some Jvm.ClassFile.FieldType.boolean) ∈ lw_g := lw_gi (List.mem_append_right _ (List.mem_of_getElem? (i := 638) (by decide +kernel))) rfl
theorem q_639 : Cond.methodLink "FileTreeLaw" 46 ⟨"FileTreeModel", "leave", "(I)Z"⟩ ∈ lw_g := lw_gi (List.mem_append_right _ (List.mem_of_getElem? (i := 639) (by decide +kernel))) rfl
theorem q_640 : Cond.instanceMethod ⟨"FileTreeModel", "leave", "(I)Z"⟩ ∈ lw_g := lw_gi (List.mem_append_right _ (List.mem_of_getElem? (i := 640) (by decide +kernel))) rfl
theorem q_641 : Cond.selects "FileTreeModel" ⟨"FileTreeModel", "leave", "(I)Z"⟩ ⟨"FileTreeModel", "leave", "(I)Z"⟩ ∈ lw_g := lw_gi (List.mem_append_right _ (List.mem_of_getElem? (i := 641) (by decide +kernel))) rfl
theorem q_642 : Cond.code ⟨"FileTreeModel", "leave", "(I)Z"⟩ prog_7_method_38_code 3 (Option.some Jvm.ClassFile.FieldType.boolean) ∈ lw_g := lw_gi (List.mem_append_right _ (List.mem_of_getElem? (i := 642) (by decide +kernel))) rfl
theorem q_643 : Cond.methodLink "FileTreeLaw" 51 ⟨"FileTreeModel", "read", "(III)I"⟩ ∈ lw_g := lw_gi (List.mem_append_right _ (List.mem_of_getElem? (i := 643) (by decide +kernel))) rfl
theorem q_644 : Cond.instanceMethod ⟨"FileTreeModel", "read", "(III)I"⟩ ∈ lw_g := lw_gi (List.mem_append_right _ (List.mem_of_getElem? (i := 644) (by decide +kernel))) rfl
theorem q_645 : Cond.selects "FileTreeModel" ⟨"FileTreeModel", "read", "(III)I"⟩ ⟨"FileTreeModel", "read", "(III)I"⟩ ∈ lw_g := lw_gi (List.mem_append_right _ (List.mem_of_getElem? (i := 645) (by decide +kernel))) rfl
theorem q_646 : Cond.code ⟨"FileTreeModel", "read", "(III)I"⟩ prog_7_method_39_code 5 (Option.some Jvm.ClassFile.FieldType.int) ∈ lw_g := lw_gi (List.mem_append_right _ (List.mem_of_getElem? (i := 646) (by decide +kernel))) rfl
theorem q_647 : Cond.methodLink "FileTreeLaw" 55 ⟨"FileTreeModel", "save", "(III)I"⟩ ∈ lw_g := lw_gi (List.mem_append_right _ (List.mem_of_getElem? (i := 647) (by decide +kernel))) rfl
theorem q_648 : Cond.instanceMethod ⟨"FileTreeModel", "save", "(III)I"⟩ ∈ lw_g := lw_gi (List.mem_append_right _ (List.mem_of_getElem? (i := 648) (by decide +kernel))) rfl
theorem q_649 : Cond.selects "FileTreeModel" ⟨"FileTreeModel", "save", "(III)I"⟩ ⟨"FileTreeModel", "save", "(III)I"⟩ ∈ lw_g := lw_gi (List.mem_append_right _ (List.mem_of_getElem? (i := 649) (by decide +kernel))) rfl
theorem q_650 : Cond.code ⟨"FileTreeModel", "save", "(III)I"⟩ prog_7_method_40_code 6 (Option.some Jvm.ClassFile.FieldType.int) ∈ lw_g := lw_gi (List.mem_append_right _ (List.mem_of_getElem? (i := 650) (by decide +kernel))) rfl
theorem q_651 : Cond.methodLink "FileTreeLaw" 59 ⟨"FileTreeModel", "clear", "(I)Z"⟩ ∈ lw_g := lw_gi (List.mem_append_right _ (List.mem_of_getElem? (i := 651) (by decide +kernel))) rfl
theorem q_652 : Cond.instanceMethod ⟨"FileTreeModel", "clear", "(I)Z"⟩ ∈ lw_g := lw_gi (List.mem_append_right _ (List.mem_of_getElem? (i := 652) (by decide +kernel))) rfl
theorem q_653 : Cond.selects "FileTreeModel" ⟨"FileTreeModel", "clear", "(I)Z"⟩ ⟨"FileTreeModel", "clear", "(I)Z"⟩ ∈ lw_g := lw_gi (List.mem_append_right _ (List.mem_of_getElem? (i := 653) (by decide +kernel))) rfl
theorem q_654 : Cond.code ⟨"FileTreeModel", "clear", "(I)Z"⟩ prog_7_method_41_code 2 (Option.some Jvm.ClassFile.FieldType.boolean) ∈ lw_g := lw_gi (List.mem_append_right _ (List.mem_of_getElem? (i := 654) (by decide +kernel))) rfl
theorem q_655 : Cond.methodLink "FileTreeLaw" 64 ⟨"FileTreeModel", "about", "(II)I"⟩ ∈ lw_g := lw_gi (List.mem_append_right _ (List.mem_of_getElem? (i := 655) (by decide +kernel))) rfl
theorem q_656 : Cond.instanceMethod ⟨"FileTreeModel", "about", "(II)I"⟩ ∈ lw_g := lw_gi (List.mem_append_right _ (List.mem_of_getElem? (i := 656) (by decide +kernel))) rfl
theorem q_657 : Cond.selects "FileTreeModel" ⟨"FileTreeModel", "about", "(II)I"⟩ ⟨"FileTreeModel", "about", "(II)I"⟩ ∈ lw_g := lw_gi (List.mem_append_right _ (List.mem_of_getElem? (i := 657) (by decide +kernel))) rfl
theorem q_658 : Cond.code ⟨"FileTreeModel", "about", "(II)I"⟩ prog_7_method_42_code 3 (Option.some Jvm.ClassFile.FieldType.int) ∈ lw_g := lw_gi (List.mem_append_right _ (List.mem_of_getElem? (i := 658) (by decide +kernel))) rfl
theorem q_659 : Cond.methodLink "FileTreeLaw" 69 ⟨"FileTreeModel", "free", "()I"⟩ ∈ lw_g := lw_gi (List.mem_append_right _ (List.mem_of_getElem? (i := 659) (by decide +kernel))) rfl
theorem q_660 : Cond.instanceMethod ⟨"FileTreeModel", "free", "()I"⟩ ∈ lw_g := lw_gi (List.mem_append_right _ (List.mem_of_getElem? (i := 660) (by decide +kernel))) rfl
theorem q_661 : Cond.selects "FileTreeModel" ⟨"FileTreeModel", "free", "()I"⟩ ⟨"FileTreeModel", "free", "()I"⟩ ∈ lw_g := lw_gi (List.mem_append_right _ (List.mem_of_getElem? (i := 661) (by decide +kernel))) rfl
theorem q_662 : Cond.code ⟨"FileTreeModel", "free", "()I"⟩ prog_7_method_43_code 1 (Option.some Jvm.ClassFile.FieldType.int) ∈ lw_g := lw_gi (List.mem_append_right _ (List.mem_of_getElem? (i := 662) (by decide +kernel))) rfl
theorem q_663 : Cond.methodLink "FileTreeLaw" 73 ⟨"FileTreeModel", "forget", "()I"⟩ ∈ lw_g := lw_gi (List.mem_append_right _ (List.mem_of_getElem? (i := 663) (by decide +kernel))) rfl
theorem q_664 : Cond.instanceMethod ⟨"FileTreeModel", "forget", "()I"⟩ ∈ lw_g := lw_gi (List.mem_append_right _ (List.mem_of_getElem? (i := 664) (by decide +kernel))) rfl
theorem q_665 : Cond.selects "FileTreeModel" ⟨"FileTreeModel", "forget", "()I"⟩ ⟨"FileTreeModel", "forget", "()I"⟩ ∈ lw_g := lw_gi (List.mem_append_right _ (List.mem_of_getElem? (i := 665) (by decide +kernel))) rfl
theorem q_666 : Cond.code ⟨"FileTreeModel", "forget", "()I"⟩ prog_7_method_44_code 3 (Option.some Jvm.ClassFile.FieldType.int) ∈ lw_g := lw_gi (List.mem_append_right _ (List.mem_of_getElem? (i := 666) (by decide +kernel))) rfl
theorem q_667 : Cond.methodLink "FileTreeLaw" 78 ⟨"FileTreeModel", "fill", "(III)Z"⟩ ∈ lw_g := lw_gi (List.mem_append_right _ (List.mem_of_getElem? (i := 667) (by decide +kernel))) rfl
theorem q_668 : Cond.instanceMethod ⟨"FileTreeModel", "fill", "(III)Z"⟩ ∈ lw_g := lw_gi (List.mem_append_right _ (List.mem_of_getElem? (i := 668) (by decide +kernel))) rfl
theorem q_669 : Cond.selects "FileTreeModel" ⟨"FileTreeModel", "fill", "(III)Z"⟩ ⟨"FileTreeModel", "fill", "(III)Z"⟩ ∈ lw_g := lw_gi (List.mem_append_right _ (List.mem_of_getElem? (i := 669) (by decide +kernel))) rfl
theorem q_670 : Cond.code ⟨"FileTreeModel", "fill", "(III)Z"⟩ prog_7_method_45_code 5 (Option.some Jvm.ClassFile.FieldType.boolean) ∈ lw_g := lw_gi (List.mem_append_right _ (List.mem_of_getElem? (i := 670) (by decide +kernel))) rfl
theorem q_671 : Cond.methodLink "FileTreeLaw" 82 ⟨"FileTreeModel", "at", "(I)I"⟩ ∈ lw_g := lw_gi (List.mem_append_right _ (List.mem_of_getElem? (i := 671) (by decide +kernel))) rfl
theorem q_672 : Cond.instanceMethod ⟨"FileTreeModel", "at", "(I)I"⟩ ∈ lw_g := lw_gi (List.mem_append_right _ (List.mem_of_getElem? (i := 672) (by decide +kernel))) rfl
theorem q_673 : Cond.selects "FileTreeModel" ⟨"FileTreeModel", "at", "(I)I"⟩ ⟨"FileTreeModel", "at", "(I)I"⟩ ∈ lw_g := lw_gi (List.mem_append_right _ (List.mem_of_getElem? (i := 673) (by decide +kernel))) rfl
theorem q_674 : Cond.code ⟨"FileTreeModel", "at", "(I)I"⟩ prog_7_method_46_code 2 (Option.some Jvm.ClassFile.FieldType.int) ∈ lw_g := lw_gi (List.mem_append_right _ (List.mem_of_getElem? (i := 674) (by decide +kernel))) rfl
theorem q_675 : Cond.methodLink "FileTreeLaw" 86 ⟨"FileTreeModel", "peek", "(II)I"⟩ ∈ lw_g := lw_gi (List.mem_append_right _ (List.mem_of_getElem? (i := 675) (by decide +kernel))) rfl
theorem q_676 : Cond.instanceMethod ⟨"FileTreeModel", "peek", "(II)I"⟩ ∈ lw_g := lw_gi (List.mem_append_right _ (List.mem_of_getElem? (i := 676) (by decide +kernel))) rfl
theorem q_677 : Cond.selects "FileTreeModel" ⟨"FileTreeModel", "peek", "(II)I"⟩ ⟨"FileTreeModel", "peek", "(II)I"⟩ ∈ lw_g := lw_gi (List.mem_append_right _ (List.mem_of_getElem? (i := 677) (by decide +kernel))) rfl
theorem q_678 : Cond.code ⟨"FileTreeModel", "peek", "(II)I"⟩ prog_7_method_51_code 3 (Option.some Jvm.ClassFile.FieldType.int) ∈ lw_g := lw_gi (List.mem_append_right _ (List.mem_of_getElem? (i := 678) (by decide +kernel))) rfl
theorem q_679 : Cond.methodLink "FileTreeModel" 172 ⟨"FileTreeModel", "superByte", "(I)I"⟩ ∈ lw_g := lw_gi (List.mem_append_right _ (List.mem_of_getElem? (i := 679) (by decide +kernel))) rfl
theorem q_681 : Cond.instanceMethod ⟨"FileTreeModel", "superByte", "(I)I"⟩ ∈ lw_g := lw_gi (List.mem_append_right _ (List.mem_of_getElem? (i := 681) (by decide +kernel))) rfl
theorem q_682 : Cond.code ⟨"FileTreeModel", "superByte", "(I)I"⟩ prog_7_method_48_code 2 (Option.some Jvm.ClassFile.FieldType.int) ∈ lw_g := lw_gi (List.mem_append_right _ (List.mem_of_getElem? (i := 682) (by decide +kernel))) rfl
theorem q_683 : Cond.methodLink "FileTreeModel" 169 ⟨"FileTreeModel", "of", "(II)I"⟩ ∈ lw_g := lw_gi (List.mem_append_right _ (List.mem_of_getElem? (i := 683) (by decide +kernel))) rfl
theorem q_684 : Cond.static ⟨"FileTreeModel", "of", "(II)I"⟩ ∈ lw_g := lw_gi (List.mem_append_right _ (List.mem_of_getElem? (i := 684) (by decide +kernel))) rfl
theorem q_685 : Cond.code ⟨"FileTreeModel", "of", "(II)I"⟩ prog_7_method_47_code 2 (Option.some Jvm.ClassFile.FieldType.int) ∈ lw_g := lw_gi (List.mem_append_right _ (List.mem_of_getElem? (i := 685) (by decide +kernel))) rfl
theorem q_686 : Cond.methodLink "FileTreeModel" 175 ⟨"FileTreeModel", "mapByte", "(I)I"⟩ ∈ lw_g := lw_gi (List.mem_append_right _ (List.mem_of_getElem? (i := 686) (by decide +kernel))) rfl
theorem q_688 : Cond.instanceMethod ⟨"FileTreeModel", "mapByte", "(I)I"⟩ ∈ lw_g := lw_gi (List.mem_append_right _ (List.mem_of_getElem? (i := 688) (by decide +kernel))) rfl
theorem q_689 : Cond.code ⟨"FileTreeModel", "mapByte", "(I)I"⟩ prog_7_method_50_code 4 (Option.some Jvm.ClassFile.FieldType.int) ∈ lw_g := lw_gi (List.mem_append_right _ (List.mem_of_getElem? (i := 689) (by decide +kernel))) rfl
theorem q_690 : Cond.methodLink "FileTreeModel" 178 ⟨"FileTreeModel", "inodeByte", "(II)I"⟩ ∈ lw_g := lw_gi (List.mem_append_right _ (List.mem_of_getElem? (i := 690) (by decide +kernel))) rfl
theorem q_692 : Cond.instanceMethod ⟨"FileTreeModel", "inodeByte", "(II)I"⟩ ∈ lw_g := lw_gi (List.mem_append_right _ (List.mem_of_getElem? (i := 692) (by decide +kernel))) rfl
theorem q_693 : Cond.code ⟨"FileTreeModel", "inodeByte", "(II)I"⟩ prog_7_method_49_code 4 (Option.some Jvm.ClassFile.FieldType.int) ∈ lw_g := lw_gi (List.mem_append_right _ (List.mem_of_getElem? (i := 693) (by decide +kernel))) rfl
theorem q_694 : Cond.constantLong "FileTreeLaw" 13 4294967295 ∈ lw_g := lw_gi (List.mem_append_right _ (List.mem_of_getElem? (i := 694) (by decide +kernel))) rfl
theorem qs_0 : Cond.selects "FileTree$Disk" ⟨"FileTree$Disk", "mark", "(IZ)V"⟩ ⟨"FileTree$Disk", "mark", "(IZ)V"⟩ ∈ lw_g := lw_gi (List.mem_append_left _ (List.mem_of_getElem? (i := 0) (by decide +kernel))) rfl
theorem qs_1 : Cond.selects "FileTree$Inodes" ⟨"FileTree$Inodes", "placeOf", "(I)I"⟩ ⟨"FileTree$Inodes", "placeOf", "(I)I"⟩ ∈ lw_g := lw_gi (List.mem_append_left _ (List.mem_of_getElem? (i := 1) (by decide +kernel))) rfl
theorem qs_2 : Cond.selects "FileTree$Directories" ⟨"FileTree$Directories", "freeEntry", "(I)I"⟩ ⟨"FileTree$Directories", "freeEntry", "(I)I"⟩ ∈ lw_g := lw_gi (List.mem_append_left _ (List.mem_of_getElem? (i := 2) (by decide +kernel))) rfl
theorem qs_3 : Cond.selects "FileTree$Directories" ⟨"FileTree$Directories", "sizeOf", "(I)I"⟩ ⟨"FileTree$Directories", "sizeOf", "(I)I"⟩ ∈ lw_g := lw_gi (List.mem_append_left _ (List.mem_of_getElem? (i := 3) (by decide +kernel))) rfl
theorem qs_4 : Cond.selects "FileTree$Inodes" ⟨"FileTree$Inodes", "slotOf", "(II)I"⟩ ⟨"FileTree$Inodes", "slotOf", "(II)I"⟩ ∈ lw_g := lw_gi (List.mem_append_left _ (List.mem_of_getElem? (i := 4) (by decide +kernel))) rfl
theorem qs_5 : Cond.selects "FileTree$Directories" ⟨"FileTree$Directories", "nameByte", "([BI)I"⟩ ⟨"FileTree$Directories", "nameByte", "([BI)I"⟩ ∈ lw_g := lw_gi (List.mem_append_left _ (List.mem_of_getElem? (i := 5) (by decide +kernel))) rfl
theorem qs_6 : Cond.selects "FileTree" ⟨"FileTree", "lead", "(III)I"⟩ ⟨"FileTree", "lead", "(III)I"⟩ ∈ lw_g := lw_gi (List.mem_append_left _ (List.mem_of_getElem? (i := 6) (by decide +kernel))) rfl
theorem qs_7 : Cond.selects "FileTree$Directories" ⟨"FileTree$Directories", "hasName", "(I[B)Z"⟩ ⟨"FileTree$Directories", "hasName", "(I[B)Z"⟩ ∈ lw_g := lw_gi (List.mem_append_left _ (List.mem_of_getElem? (i := 7) (by decide +kernel))) rfl
theorem qs_8 : Cond.selects "FileTreeModel" ⟨"FileTreeModel", "begins", "(II)V"⟩ ⟨"FileTreeModel", "begins", "(II)V"⟩ ∈ lw_g := lw_gi (List.mem_append_left _ (List.mem_of_getElem? (i := 8) (by decide +kernel))) rfl
theorem qs_9 : Cond.selects "FileTreeModel" ⟨"FileTreeModel", "grow", "(I)V"⟩ ⟨"FileTreeModel", "grow", "(I)V"⟩ ∈ lw_g := lw_gi (List.mem_append_left _ (List.mem_of_getElem? (i := 9) (by decide +kernel))) rfl
theorem qs_10 : Cond.selects "FileTreeModel" ⟨"FileTreeModel", "take", "()I"⟩ ⟨"FileTreeModel", "take", "()I"⟩ ∈ lw_g := lw_gi (List.mem_append_left _ (List.mem_of_getElem? (i := 10) (by decide +kernel))) rfl
theorem qs_11 : Cond.selects "FileTreeModel" ⟨"FileTreeModel", "putNumber", "(III)V"⟩ ⟨"FileTreeModel", "putNumber", "(III)V"⟩ ∈ lw_g := lw_gi (List.mem_append_left _ (List.mem_of_getElem? (i := 11) (by decide +kernel))) rfl
theorem qs_12 : Cond.selects "FileTreeModel" ⟨"FileTreeModel", "dots", "(I)V"⟩ ⟨"FileTreeModel", "dots", "(I)V"⟩ ∈ lw_g := lw_gi (List.mem_append_left _ (List.mem_of_getElem? (i := 12) (by decide +kernel))) rfl
theorem qs_13 : Cond.selects "FileTreeModel" ⟨"FileTreeModel", "lay", "(III)V"⟩ ⟨"FileTreeModel", "lay", "(III)V"⟩ ∈ lw_g := lw_gi (List.mem_append_left _ (List.mem_of_getElem? (i := 13) (by decide +kernel))) rfl
theorem qs_14 : Cond.selects "FileTreeModel" ⟨"FileTreeModel", "place", "(II)I"⟩ ⟨"FileTreeModel", "place", "(II)I"⟩ ∈ lw_g := lw_gi (List.mem_append_left _ (List.mem_of_getElem? (i := 14) (by decide +kernel))) rfl
theorem qs_15 : Cond.selects "FileTreeModel" ⟨"FileTreeModel", "taken", "()I"⟩ ⟨"FileTreeModel", "taken", "()I"⟩ ∈ lw_g := lw_gi (List.mem_append_left _ (List.mem_of_getElem? (i := 15) (by decide +kernel))) rfl
theorem qs_16 : Cond.selects "FileTreeModel" ⟨"FileTreeModel", "leads", "(III)I"⟩ ⟨"FileTreeModel", "leads", "(III)I"⟩ ∈ lw_g := lw_gi (List.mem_append_left _ (List.mem_of_getElem? (i := 16) (by decide +kernel))) rfl
theorem qs_17 : Cond.selects "FileTreeModel" ⟨"FileTreeModel", "begin", "(III)I"⟩ ⟨"FileTreeModel", "begin", "(III)I"⟩ ∈ lw_g := lw_gi (List.mem_append_left _ (List.mem_of_getElem? (i := 17) (by decide +kernel))) rfl
theorem qs_18 : Cond.selects "FileTreeModel" ⟨"FileTreeModel", "there", "(I)Z"⟩ ⟨"FileTreeModel", "there", "(I)Z"⟩ ∈ lw_g := lw_gi (List.mem_append_left _ (List.mem_of_getElem? (i := 18) (by decide +kernel))) rfl
theorem qs_19 : Cond.selects "FileTreeModel" ⟨"FileTreeModel", "named", "()Z"⟩ ⟨"FileTreeModel", "named", "()Z"⟩ ∈ lw_g := lw_gi (List.mem_append_left _ (List.mem_of_getElem? (i := 19) (by decide +kernel))) rfl
theorem qs_20 : Cond.selects "FileTreeModel" ⟨"FileTreeModel", "slashes", "()V"⟩ ⟨"FileTreeModel", "slashes", "()V"⟩ ∈ lw_g := lw_gi (List.mem_append_left _ (List.mem_of_getElem? (i := 20) (by decide +kernel))) rfl
theorem qs_21 : Cond.selects "FileTreeModel" ⟨"FileTreeModel", "step", "(I)I"⟩ ⟨"FileTreeModel", "step", "(I)I"⟩ ∈ lw_g := lw_gi (List.mem_append_left _ (List.mem_of_getElem? (i := 21) (by decide +kernel))) rfl
theorem qs_22 : Cond.selects "FileTreeModel" ⟨"FileTreeModel", "entry", "(I)I"⟩ ⟨"FileTreeModel", "entry", "(I)I"⟩ ∈ lw_g := lw_gi (List.mem_append_left _ (List.mem_of_getElem? (i := 22) (by decide +kernel))) rfl
theorem qs_23 : Cond.selects "FileTreeModel" ⟨"FileTreeModel", "numberAt", "(II)I"⟩ ⟨"FileTreeModel", "numberAt", "(II)I"⟩ ∈ lw_g := lw_gi (List.mem_append_left _ (List.mem_of_getElem? (i := 23) (by decide +kernel))) rfl
theorem qs_24 : Cond.selects "FileTreeModel" ⟨"FileTreeModel", "before", "(III)I"⟩ ⟨"FileTreeModel", "before", "(III)I"⟩ ∈ lw_g := lw_gi (List.mem_append_left _ (List.mem_of_getElem? (i := 24) (by decide +kernel))) rfl
theorem qs_25 : Cond.selects "FileTreeModel" ⟨"FileTreeModel", "wants", "(I)I"⟩ ⟨"FileTreeModel", "wants", "(I)I"⟩ ∈ lw_g := lw_gi (List.mem_append_left _ (List.mem_of_getElem? (i := 25) (by decide +kernel))) rfl
theorem qs_26 : Cond.selects "FileTreeModel" ⟨"FileTreeModel", "vacant", "(I)I"⟩ ⟨"FileTreeModel", "vacant", "(I)I"⟩ ∈ lw_g := lw_gi (List.mem_append_left _ (List.mem_of_getElem? (i := 26) (by decide +kernel))) rfl
theorem qs_27 : Cond.selects "FileTreeModel" ⟨"FileTreeModel", "next", "(I)I"⟩ ⟨"FileTreeModel", "next", "(I)I"⟩ ∈ lw_g := lw_gi (List.mem_append_left _ (List.mem_of_getElem? (i := 27) (by decide +kernel))) rfl
theorem qs_28 : Cond.selects "FileTreeModel" ⟨"FileTreeModel", "left", "()I"⟩ ⟨"FileTreeModel", "left", "()I"⟩ ∈ lw_g := lw_gi (List.mem_append_left _ (List.mem_of_getElem? (i := 28) (by decide +kernel))) rfl
theorem qs_29 : Cond.selects "FileTreeModel" ⟨"FileTreeModel", "again", "()V"⟩ ⟨"FileTreeModel", "again", "()V"⟩ ∈ lw_g := lw_gi (List.mem_append_left _ (List.mem_of_getElem? (i := 29) (by decide +kernel))) rfl
theorem qs_30 : Cond.selects "FileTreeModel" ⟨"FileTreeModel", "enter", "(II)V"⟩ ⟨"FileTreeModel", "enter", "(II)V"⟩ ∈ lw_g := lw_gi (List.mem_append_left _ (List.mem_of_getElem? (i := 30) (by decide +kernel))) rfl
theorem qs_31 : Cond.selects "FileTreeModel" ⟨"FileTreeModel", "isDots", "()Z"⟩ ⟨"FileTreeModel", "isDots", "()Z"⟩ ∈ lw_g := lw_gi (List.mem_append_left _ (List.mem_of_getElem? (i := 31) (by decide +kernel))) rfl
theorem qs_32 : Cond.selects "FileTreeModel" ⟨"FileTreeModel", "isBare", "(I)Z"⟩ ⟨"FileTreeModel", "isBare", "(I)Z"⟩ ∈ lw_g := lw_gi (List.mem_append_left _ (List.mem_of_getElem? (i := 32) (by decide +kernel))) rfl
theorem qs_33 : Cond.selects "FileTreeModel" ⟨"FileTreeModel", "erase", "(II)V"⟩ ⟨"FileTreeModel", "erase", "(II)V"⟩ ∈ lw_g := lw_gi (List.mem_append_left _ (List.mem_of_getElem? (i := 33) (by decide +kernel))) rfl
theorem qs_34 : Cond.selects "FileTreeModel" ⟨"FileTreeModel", "ends", "(I)Z"⟩ ⟨"FileTreeModel", "ends", "(I)Z"⟩ ∈ lw_g := lw_gi (List.mem_append_left _ (List.mem_of_getElem? (i := 34) (by decide +kernel))) rfl
theorem qs_35 : Cond.selects "FileTreeModel" ⟨"FileTreeModel", "empty", "(I)V"⟩ ⟨"FileTreeModel", "empty", "(I)V"⟩ ∈ lw_g := lw_gi (List.mem_append_left _ (List.mem_of_getElem? (i := 35) (by decide +kernel))) rfl
theorem qs_36 : Cond.selects "FileTreeModel" ⟨"FileTreeModel", "superByte", "(I)I"⟩ ⟨"FileTreeModel", "superByte", "(I)I"⟩ ∈ lw_g := lw_gi (List.mem_append_left _ (List.mem_of_getElem? (i := 36) (by decide +kernel))) rfl
theorem qs_37 : Cond.selects "FileTreeModel" ⟨"FileTreeModel", "mapByte", "(I)I"⟩ ⟨"FileTreeModel", "mapByte", "(I)I"⟩ ∈ lw_g := lw_gi (List.mem_append_left _ (List.mem_of_getElem? (i := 37) (by decide +kernel))) rfl
theorem qs_38 : Cond.selects "FileTreeModel" ⟨"FileTreeModel", "inodeByte", "(II)I"⟩ ⟨"FileTreeModel", "inodeByte", "(II)I"⟩ ∈ lw_g := lw_gi (List.mem_append_left _ (List.mem_of_getElem? (i := 38) (by decide +kernel))) rfl
end
section
theorem goodIn_r1 (ws : List Cond) (ps : List Nat) (hp : ws = ps.filterMap (fun i => lw_tbl[i]?)) (hg : ws.all goodWord = true) : ∀ w ∈ ws, w ∈ lw_g := by
  intro w hw
  have h1 := List.all_eq_true.mp hg w hw
  rw [hp] at hw
  obtain ⟨i, -, hi⟩ := List.mem_filterMap.mp hw
  exact lw_gi (List.mem_of_getElem? hi) h1
theorem gd_cons {c : Cond} {ws : List Cond} (h : c ∈ lw_g ∧ goodWord c = true) (hw : GoodIn lw_g ws) : GoodIn lw_g (c :: ws) := fun w hw2 => (List.mem_cons.mp hw2).elim (fun e => by rw [e]; exact ⟨h.1, good_of_word h.2⟩) (hw w)
abbrev kw (y : MethodName) (b : ByteArray) (n : Nat) (r : Option FieldType) : List Cond := Cond.code y b n r :: lw_g
def ko (C : String) (y : MethodName) (b : ByteArray) (n : Nat) (r : Option FieldType) : Prop := Cond.instanceMethod y ∈ lw_g ∧ Cond.selects C y y ∈ lw_g ∧ Cond.initialized C ∈ lw_g ∧ Cond.code y b n r ∈ lw_g
def kos (y : MethodName) (b : ByteArray) (n : Nat) (r : Option FieldType) : Prop := Cond.static y ∈ lw_g ∧ Cond.initialized y.cls ∈ lw_g ∧ Cond.code y b n r ∈ lw_g
theorem gd_V {own : String} {idx : Nat} {C : String} {y : MethodName} {b : ByteArray} {n : Nat} {r : Option FieldType} (hl : Cond.methodLink own idx y ∈ lw_g) (h : ko C y b n r) : GoodIn lw_g (wsV own idx C y (kw y b n r)) := gd_cons ⟨hl, rfl⟩ (gd_cons ⟨h.1, rfl⟩ (gd_cons ⟨h.2.1, rfl⟩ (gd_cons ⟨h.2.2.1, rfl⟩ (gd_cons ⟨h.2.2.2, rfl⟩ lw_good))))
theorem gd_S {own : String} {idx : Nat} {y : MethodName} {b : ByteArray} {n : Nat} {r : Option FieldType} (hl : Cond.methodLink own idx y ∈ lw_g) (h : kos y b n r) : GoodIn lw_g (va_wsS own idx y (kw y b n r)) := gd_cons ⟨hl, rfl⟩ (gd_cons ⟨h.1, rfl⟩ (gd_cons ⟨h.2.1, rfl⟩ (gd_cons ⟨h.2.2, rfl⟩ lw_good)))
theorem gd_C {y : MethodName} {b : ByteArray} {n : Nat} {r : Option FieldType} (h : Cond.code y b n r ∈ lw_g) : GoodIn lw_g (kw y b n r) := gd_cons ⟨h, rfl⟩ lw_good
def ft_D : u_T := fun k => match k with
  | 0 => ("FileTree$Directories", "inodes", "LFileTree$Inodes;", true)
  | _ => ("FileTree$Directories", "disk", "LFileTree$Disk;", true)
def fy_D : Nat → FieldType := fun k => match k with
  | 0 => .object "FileTree$Inodes"
  | _ => .object "FileTree$Disk"
theorem fn_D : ∀ a, a < 2 → ∀ b, b < 2 → a ≠ b → (ft_D a).2.1 ≠ (ft_D b).2.1 := by decide +kernel
theorem fo_D : ∀ k, k < 2 → parseFieldDescriptor (ft_D k).2.2.1 = some (fy_D k) := by decide +kernel
theorem fi_D : ∀ w ∈ u_ws "FileTree$Directories" ft_D 2, w ∈ lw_g := fun w h => (goodIn_r1 _ [92, 94] (by decide +kernel) (by decide +kernel) w h)
def ft_K : u_T := fun k => match k with
  | _ => ("FileTree$Disk", "words", "[I", true)
def fy_K : Nat → FieldType := fun k => match k with
  | _ => .array .int
theorem fn_K : ∀ a, a < 1 → ∀ b, b < 1 → a ≠ b → (ft_K a).2.1 ≠ (ft_K b).2.1 := by decide +kernel
theorem fo_K : ∀ k, k < 1 → parseFieldDescriptor (ft_K k).2.2.1 = some (fy_K k) := by decide +kernel
theorem fi_K : ∀ w ∈ u_ws "FileTree$Disk" ft_K 1, w ∈ lw_g := fun w h => (goodIn_r1 _ [76] (by decide +kernel) (by decide +kernel) w h)
def ft_I : u_T := fun k => match k with
  | 0 => ("FileTree$Inodes", "disk", "LFileTree$Disk;", true)
  | _ => ("FileTree$Inodes", "held", "[I", true)
def fy_I : Nat → FieldType := fun k => match k with
  | 0 => .object "FileTree$Disk"
  | _ => .array .int
theorem fn_I : ∀ a, a < 2 → ∀ b, b < 2 → a ≠ b → (ft_I a).2.1 ≠ (ft_I b).2.1 := by decide +kernel
theorem fo_I : ∀ k, k < 2 → parseFieldDescriptor (ft_I k).2.2.1 = some (fy_I k) := by decide +kernel
theorem fi_I : ∀ w ∈ u_ws "FileTree$Inodes" ft_I 2, w ∈ lw_g := fun w h => (goodIn_r1 _ [84, 86] (by decide +kernel) (by decide +kernel) w h)
def ft_X : u_T := fun k => match k with
  | 0 => ("FileTree$Text", "bytes", "[B", true)
  | 1 => ("FileTree$Text", "name", "[B", true)
  | 2 => ("FileTree$Text", "last", "[B", true)
  | _ => ("FileTree$Text", "length", "I", false)
def fy_X : Nat → FieldType := fun k => match k with
  | 0 => .array .byte
  | 1 => .array .byte
  | 2 => .array .byte
  | _ => .int
theorem fn_X : ∀ a, a < 4 → ∀ b, b < 4 → a ≠ b → (ft_X a).2.1 ≠ (ft_X b).2.1 := by decide +kernel
theorem fo_X : ∀ k, k < 4 → parseFieldDescriptor (ft_X k).2.2.1 = some (fy_X k) := by decide +kernel
theorem fi_X : ∀ w ∈ u_ws "FileTree$Text" ft_X 4, w ∈ lw_g := fun w h => (goodIn_r1 _ [110, 112, 114, 116] (by decide +kernel) (by decide +kernel) w h)
def ft_T : u_T := fun k => match k with
  | 0 => ("FileTree", "directories", "LFileTree$Directories;", true)
  | 1 => ("FileTree", "inodes", "LFileTree$Inodes;", true)
  | 2 => ("FileTree", "disk", "LFileTree$Disk;", true)
  | 3 => ("FileTree", "text", "LFileTree$Text;", true)
  | _ => ("FileTree", "buffer", "[B", true)
def fy_T : Nat → FieldType := fun k => match k with
  | 0 => .object "FileTree$Directories"
  | 1 => .object "FileTree$Inodes"
  | 2 => .object "FileTree$Disk"
  | 3 => .object "FileTree$Text"
  | _ => .array .byte
theorem fn_T : ∀ a, a < 5 → ∀ b, b < 5 → a ≠ b → (ft_T a).2.1 ≠ (ft_T b).2.1 := by decide +kernel
theorem fo_T : ∀ k, k < 5 → parseFieldDescriptor (ft_T k).2.2.1 = some (fy_T k) := by decide +kernel
theorem fi_T : ∀ w ∈ u_ws "FileTree" ft_T 5, w ∈ lw_g := fun w h => (goodIn_r1 _ [251, 253, 255, 257, 259] (by decide +kernel) (by decide +kernel) w h)
def ft_M : u_T := fun k => match k with
  | 0 => ("FileTreeModel", "thrown", "I", false)
  | 1 => ("FileTreeModel", "typed", "I", false)
  | 2 => ("FileTreeModel", "text", "[B", true)
  | 3 => ("FileTreeModel", "buffer", "[B", true)
  | 4 => ("FileTreeModel", "disk", "[B", true)
  | 5 => ("FileTreeModel", "used", "[Z", true)
  | 6 => ("FileTreeModel", "kind", "[I", true)
  | 7 => ("FileTreeModel", "major", "[I", true)
  | 8 => ("FileTreeModel", "minor", "[I", true)
  | 9 => ("FileTreeModel", "links", "[I", true)
  | 10 => ("FileTreeModel", "size", "[I", true)
  | 11 => ("FileTreeModel", "held", "[I", true)
  | 12 => ("FileTreeModel", "many", "[I", true)
  | 13 => ("FileTreeModel", "blocks", "[I", true)
  | 14 => ("FileTreeModel", "numbers", "[I", true)
  | 15 => ("FileTreeModel", "p", "I", false)
  | 16 => ("FileTreeModel", "end", "I", false)
  | _ => ("FileTreeModel", "name", "[B", true)
def fy_M : Nat → FieldType := fun k => match k with
  | 0 => .int
  | 1 => .int
  | 2 => .array .byte
  | 3 => .array .byte
  | 4 => .array .byte
  | 5 => .array .boolean
  | 6 => .array .int
  | 7 => .array .int
  | 8 => .array .int
  | 9 => .array .int
  | 10 => .array .int
  | 11 => .array .int
  | 12 => .array .int
  | 13 => .array .int
  | 14 => .array .int
  | 15 => .int
  | 16 => .int
  | _ => .array .byte
theorem fn_M : ∀ a, a < 18 → ∀ b, b < 18 → a ≠ b → (ft_M a).2.1 ≠ (ft_M b).2.1 := by decide +kernel
theorem fo_M : ∀ k, k < 18 → parseFieldDescriptor (ft_M k).2.2.1 = some (fy_M k) := by decide +kernel
theorem fi_M : ∀ w ∈ u_ws "FileTreeModel" ft_M 18, w ∈ lw_g := fun w h => (goodIn_r1 _ [526, 528, 530, 532, 534, 536, 538, 540, 542, 544, 546, 548, 550, 552, 554, 556, 558, 560] (by decide +kernel) (by decide +kernel) w h)
abbrev vcl : List vw_C := [("FileTree$Directories", ft_D, 2), ("FileTree$Disk", ft_K, 1), ("FileTree$Inodes", ft_I, 2), ("FileTree$Text", ft_X, 4), ("FileTree", ft_T, 5), ("FileTreeModel", ft_M, 18)]
abbrev kc_T_init : ByteArray := prog_1_method_1_code
abbrev ky_T_init : MethodName := ⟨"FileTree", "<init>", "()V"⟩
abbrev kw_T_init : List Cond := kw ky_T_init kc_T_init 1 none
abbrev kc_T_write : ByteArray := prog_1_method_2_code
abbrev ky_T_write : MethodName := ⟨"FileTree", "write", "(J)Z"⟩
abbrev kw_T_write : List Cond := kw ky_T_write kc_T_write 3 (some .boolean)
theorem ko_T_write : ko "FileTree" ky_T_write kc_T_write 3 (some .boolean) := ⟨q_224, q_225, q_1, q_226⟩
theorem kh_T_write : (ky_T_write).cls = "FileTree" ∧ (ky_T_write).cls ≠ "java/lang/invoke/MethodHandle" ∧ (ky_T_write).cls ≠ "java/lang/invoke/VarHandle" ∧ (parseMethodDescriptor (ky_T_write).desc).map (fun d => d.parameters.length) = some 1 := by decide +kernel
abbrev kc_T_find : ByteArray := prog_1_method_3_code
abbrev ky_T_find : MethodName := ⟨"FileTree", "find", "(I)I"⟩
abbrev kw_T_find : List Cond := kw ky_T_find kc_T_find 3 (some .int)
theorem ko_T_find : ko "FileTree" ky_T_find kc_T_find 3 (some .int) := ⟨q_233, q_234, q_1, q_235⟩
theorem kh_T_find : (ky_T_find).cls = "FileTree" ∧ (ky_T_find).cls ≠ "java/lang/invoke/MethodHandle" ∧ (ky_T_find).cls ≠ "java/lang/invoke/VarHandle" ∧ (parseMethodDescriptor (ky_T_find).desc).map (fun d => d.parameters.length) = some 1 := by decide +kernel
abbrev kc_T_create : ByteArray := prog_1_method_4_code
abbrev ky_T_create : MethodName := ⟨"FileTree", "create", "(IIII)I"⟩
abbrev kw_T_create : List Cond := kw ky_T_create kc_T_create 9 (some .int)
theorem ko_T_create : ko "FileTree" ky_T_create kc_T_create 9 (some .int) := ⟨q_277, q_278, q_1, q_279⟩
theorem kh_T_create : (ky_T_create).cls = "FileTree" ∧ (ky_T_create).cls ≠ "java/lang/invoke/MethodHandle" ∧ (ky_T_create).cls ≠ "java/lang/invoke/VarHandle" ∧ (parseMethodDescriptor (ky_T_create).desc).map (fun d => d.parameters.length) = some 4 := by decide +kernel
abbrev kc_T_link : ByteArray := prog_1_method_5_code
abbrev ky_T_link : MethodName := ⟨"FileTree", "link", "(I)I"⟩
abbrev kw_T_link : List Cond := kw ky_T_link kc_T_link 5 (some .int)
theorem ko_T_link : ko "FileTree" ky_T_link kc_T_link 5 (some .int) := ⟨q_303, q_304, q_1, q_305⟩
theorem kh_T_link : (ky_T_link).cls = "FileTree" ∧ (ky_T_link).cls ≠ "java/lang/invoke/MethodHandle" ∧ (ky_T_link).cls ≠ "java/lang/invoke/VarHandle" ∧ (parseMethodDescriptor (ky_T_link).desc).map (fun d => d.parameters.length) = some 1 := by decide +kernel
abbrev kc_T_unlink : ByteArray := prog_1_method_6_code
abbrev ky_T_unlink : MethodName := ⟨"FileTree", "unlink", "(I)I"⟩
abbrev kw_T_unlink : List Cond := kw ky_T_unlink kc_T_unlink 5 (some .int)
theorem ko_T_unlink : ko "FileTree" ky_T_unlink kc_T_unlink 5 (some .int) := ⟨q_313, q_314, q_1, q_315⟩
theorem kh_T_unlink : (ky_T_unlink).cls = "FileTree" ∧ (ky_T_unlink).cls ≠ "java/lang/invoke/MethodHandle" ∧ (ky_T_unlink).cls ≠ "java/lang/invoke/VarHandle" ∧ (parseMethodDescriptor (ky_T_unlink).desc).map (fun d => d.parameters.length) = some 1 := by decide +kernel
abbrev kc_T_hold : ByteArray := prog_1_method_7_code
abbrev ky_T_hold : MethodName := ⟨"FileTree", "hold", "(I)Z"⟩
abbrev kw_T_hold : List Cond := kw ky_T_hold kc_T_hold 2 (some .boolean)
theorem ko_T_hold : ko "FileTree" ky_T_hold kc_T_hold 2 (some .boolean) := ⟨q_352, q_353, q_1, q_354⟩
theorem kh_T_hold : (ky_T_hold).cls = "FileTree" ∧ (ky_T_hold).cls ≠ "java/lang/invoke/MethodHandle" ∧ (ky_T_hold).cls ≠ "java/lang/invoke/VarHandle" ∧ (parseMethodDescriptor (ky_T_hold).desc).map (fun d => d.parameters.length) = some 1 := by decide +kernel
abbrev kc_T_leave : ByteArray := prog_1_method_8_code
abbrev ky_T_leave : MethodName := ⟨"FileTree", "leave", "(I)Z"⟩
abbrev kw_T_leave : List Cond := kw ky_T_leave kc_T_leave 2 (some .boolean)
theorem ko_T_leave : ko "FileTree" ky_T_leave kc_T_leave 2 (some .boolean) := ⟨q_360, q_361, q_1, q_362⟩
theorem kh_T_leave : (ky_T_leave).cls = "FileTree" ∧ (ky_T_leave).cls ≠ "java/lang/invoke/MethodHandle" ∧ (ky_T_leave).cls ≠ "java/lang/invoke/VarHandle" ∧ (parseMethodDescriptor (ky_T_leave).desc).map (fun d => d.parameters.length) = some 1 := by decide +kernel
abbrev kc_T_read : ByteArray := prog_1_method_9_code
abbrev ky_T_read : MethodName := ⟨"FileTree", "read", "(III)I"⟩
abbrev kw_T_read : List Cond := kw ky_T_read kc_T_read 6 (some .int)
theorem ko_T_read : ko "FileTree" ky_T_read kc_T_read 6 (some .int) := ⟨q_365, q_366, q_1, q_367⟩
theorem kh_T_read : (ky_T_read).cls = "FileTree" ∧ (ky_T_read).cls ≠ "java/lang/invoke/MethodHandle" ∧ (ky_T_read).cls ≠ "java/lang/invoke/VarHandle" ∧ (parseMethodDescriptor (ky_T_read).desc).map (fun d => d.parameters.length) = some 3 := by decide +kernel
abbrev kc_T_save : ByteArray := prog_1_method_10_code
abbrev ky_T_save : MethodName := ⟨"FileTree", "save", "(III)I"⟩
abbrev kw_T_save : List Cond := kw ky_T_save kc_T_save 4 (some .int)
theorem ko_T_save : ko "FileTree" ky_T_save kc_T_save 4 (some .int) := ⟨q_382, q_383, q_1, q_384⟩
theorem kh_T_save : (ky_T_save).cls = "FileTree" ∧ (ky_T_save).cls ≠ "java/lang/invoke/MethodHandle" ∧ (ky_T_save).cls ≠ "java/lang/invoke/VarHandle" ∧ (parseMethodDescriptor (ky_T_save).desc).map (fun d => d.parameters.length) = some 3 := by decide +kernel
abbrev kc_T_clear : ByteArray := prog_1_method_11_code
abbrev ky_T_clear : MethodName := ⟨"FileTree", "clear", "(I)Z"⟩
abbrev kw_T_clear : List Cond := kw ky_T_clear kc_T_clear 2 (some .boolean)
theorem ko_T_clear : ko "FileTree" ky_T_clear kc_T_clear 2 (some .boolean) := ⟨q_394, q_395, q_1, q_396⟩
theorem kh_T_clear : (ky_T_clear).cls = "FileTree" ∧ (ky_T_clear).cls ≠ "java/lang/invoke/MethodHandle" ∧ (ky_T_clear).cls ≠ "java/lang/invoke/VarHandle" ∧ (parseMethodDescriptor (ky_T_clear).desc).map (fun d => d.parameters.length) = some 1 := by decide +kernel
abbrev kc_T_about : ByteArray := prog_1_method_12_code
abbrev ky_T_about : MethodName := ⟨"FileTree", "about", "(II)I"⟩
abbrev kw_T_about : List Cond := kw ky_T_about kc_T_about 3 (some .int)
theorem ko_T_about : ko "FileTree" ky_T_about kc_T_about 3 (some .int) := ⟨q_400, q_401, q_1, q_402⟩
theorem kh_T_about : (ky_T_about).cls = "FileTree" ∧ (ky_T_about).cls ≠ "java/lang/invoke/MethodHandle" ∧ (ky_T_about).cls ≠ "java/lang/invoke/VarHandle" ∧ (parseMethodDescriptor (ky_T_about).desc).map (fun d => d.parameters.length) = some 2 := by decide +kernel
abbrev kc_T_free : ByteArray := prog_1_method_13_code
abbrev ky_T_free : MethodName := ⟨"FileTree", "free", "()I"⟩
abbrev kw_T_free : List Cond := kw ky_T_free kc_T_free 1 (some .int)
theorem ko_T_free : ko "FileTree" ky_T_free kc_T_free 1 (some .int) := ⟨q_413, q_414, q_1, q_415⟩
theorem kh_T_free : (ky_T_free).cls = "FileTree" ∧ (ky_T_free).cls ≠ "java/lang/invoke/MethodHandle" ∧ (ky_T_free).cls ≠ "java/lang/invoke/VarHandle" ∧ (parseMethodDescriptor (ky_T_free).desc).map (fun d => d.parameters.length) = some 0 := by decide +kernel
abbrev kc_T_forget : ByteArray := prog_1_method_14_code
abbrev ky_T_forget : MethodName := ⟨"FileTree", "forget", "()I"⟩
abbrev kw_T_forget : List Cond := kw ky_T_forget kc_T_forget 3 (some .int)
theorem ko_T_forget : ko "FileTree" ky_T_forget kc_T_forget 3 (some .int) := ⟨q_418, q_419, q_1, q_420⟩
theorem kh_T_forget : (ky_T_forget).cls = "FileTree" ∧ (ky_T_forget).cls ≠ "java/lang/invoke/MethodHandle" ∧ (ky_T_forget).cls ≠ "java/lang/invoke/VarHandle" ∧ (parseMethodDescriptor (ky_T_forget).desc).map (fun d => d.parameters.length) = some 0 := by decide +kernel
abbrev kc_T_fill : ByteArray := prog_1_method_15_code
abbrev ky_T_fill : MethodName := ⟨"FileTree", "fill", "(III)Z"⟩
abbrev kw_T_fill : List Cond := kw ky_T_fill kc_T_fill 5 (some .boolean)
theorem ko_T_fill : ko "FileTree" ky_T_fill kc_T_fill 5 (some .boolean) := ⟨q_422, q_423, q_1, q_424⟩
theorem kh_T_fill : (ky_T_fill).cls = "FileTree" ∧ (ky_T_fill).cls ≠ "java/lang/invoke/MethodHandle" ∧ (ky_T_fill).cls ≠ "java/lang/invoke/VarHandle" ∧ (parseMethodDescriptor (ky_T_fill).desc).map (fun d => d.parameters.length) = some 3 := by decide +kernel
abbrev kc_T_at : ByteArray := prog_1_method_16_code
abbrev ky_T_at : MethodName := ⟨"FileTree", "at", "(I)I"⟩
abbrev kw_T_at : List Cond := kw ky_T_at kc_T_at 2 (some .int)
theorem ko_T_at : ko "FileTree" ky_T_at kc_T_at 2 (some .int) := ⟨q_426, q_427, q_1, q_428⟩
theorem kh_T_at : (ky_T_at).cls = "FileTree" ∧ (ky_T_at).cls ≠ "java/lang/invoke/MethodHandle" ∧ (ky_T_at).cls ≠ "java/lang/invoke/VarHandle" ∧ (parseMethodDescriptor (ky_T_at).desc).map (fun d => d.parameters.length) = some 1 := by decide +kernel
abbrev kc_T_peek : ByteArray := prog_1_method_17_code
abbrev ky_T_peek : MethodName := ⟨"FileTree", "peek", "(II)I"⟩
abbrev kw_T_peek : List Cond := kw ky_T_peek kc_T_peek 3 (some .int)
theorem ko_T_peek : ko "FileTree" ky_T_peek kc_T_peek 3 (some .int) := ⟨q_430, q_431, q_1, q_432⟩
theorem kh_T_peek : (ky_T_peek).cls = "FileTree" ∧ (ky_T_peek).cls ≠ "java/lang/invoke/MethodHandle" ∧ (ky_T_peek).cls ≠ "java/lang/invoke/VarHandle" ∧ (parseMethodDescriptor (ky_T_peek).desc).map (fun d => d.parameters.length) = some 2 := by decide +kernel
abbrev kc_T_lead : ByteArray := prog_1_method_18_code
abbrev ky_T_lead : MethodName := ⟨"FileTree", "lead", "(III)I"⟩
abbrev kw_T_lead : List Cond := kw ky_T_lead kc_T_lead 7 (some .int)
theorem ko_T_lead : ko "FileTree" ky_T_lead kc_T_lead 7 (some .int) := ⟨q_238, qs_6, q_1, q_239⟩
theorem kh_T_lead : (ky_T_lead).cls = "FileTree" ∧ (ky_T_lead).cls ≠ "java/lang/invoke/MethodHandle" ∧ (ky_T_lead).cls ≠ "java/lang/invoke/VarHandle" ∧ (parseMethodDescriptor (ky_T_lead).desc).map (fun d => d.parameters.length) = some 3 := by decide +kernel
abbrev kc_M_init : ByteArray := prog_7_method_1_code
abbrev ky_M_init : MethodName := ⟨"FileTreeModel", "<init>", "()V"⟩
abbrev kw_M_init : List Cond := kw ky_M_init kc_M_init 2 none
abbrev kc_M_left : ByteArray := prog_7_method_3_code
abbrev ky_M_left : MethodName := ⟨"FileTreeModel", "left", "()I"⟩
abbrev kw_M_left : List Cond := kw ky_M_left kc_M_left 3 (some .int)
theorem ko_M_left : ko "FileTreeModel" ky_M_left kc_M_left 3 (some .int) := ⟨q_596, qs_28, q_7, q_597⟩
theorem kh_M_left : (ky_M_left).cls = "FileTreeModel" ∧ (ky_M_left).cls ≠ "java/lang/invoke/MethodHandle" ∧ (ky_M_left).cls ≠ "java/lang/invoke/VarHandle" ∧ (parseMethodDescriptor (ky_M_left).desc).map (fun d => d.parameters.length) = some 0 := by decide +kernel
abbrev kc_M_take : ByteArray := prog_7_method_4_code
abbrev ky_M_take : MethodName := ⟨"FileTreeModel", "take", "()I"⟩
abbrev kw_M_take : List Cond := kw ky_M_take kc_M_take 3 (some .int)
theorem ko_M_take : ko "FileTreeModel" ky_M_take kc_M_take 3 (some .int) := ⟨q_451, qs_10, q_7, q_452⟩
theorem kh_M_take : (ky_M_take).cls = "FileTreeModel" ∧ (ky_M_take).cls ≠ "java/lang/invoke/MethodHandle" ∧ (ky_M_take).cls ≠ "java/lang/invoke/VarHandle" ∧ (parseMethodDescriptor (ky_M_take).desc).map (fun d => d.parameters.length) = some 0 := by decide +kernel
abbrev kc_M_putNumber : ByteArray := prog_7_method_5_code
abbrev ky_M_putNumber : MethodName := ⟨"FileTreeModel", "putNumber", "(III)V"⟩
abbrev kw_M_putNumber : List Cond := kw ky_M_putNumber kc_M_putNumber 5 none
theorem ko_M_putNumber : ko "FileTreeModel" ky_M_putNumber kc_M_putNumber 5 none := ⟨q_455, qs_11, q_7, q_456⟩
theorem kh_M_putNumber : (ky_M_putNumber).cls = "FileTreeModel" ∧ (ky_M_putNumber).cls ≠ "java/lang/invoke/MethodHandle" ∧ (ky_M_putNumber).cls ≠ "java/lang/invoke/VarHandle" ∧ (parseMethodDescriptor (ky_M_putNumber).desc).map (fun d => d.parameters.length) = some 3 := by decide +kernel
abbrev kc_M_next : ByteArray := prog_7_method_6_code
abbrev ky_M_next : MethodName := ⟨"FileTreeModel", "next", "(I)I"⟩
abbrev kw_M_next : List Cond := kw ky_M_next kc_M_next 2 (some .int)
theorem ko_M_next : ko "FileTreeModel" ky_M_next kc_M_next 2 (some .int) := ⟨q_592, qs_27, q_7, q_593⟩
theorem kh_M_next : (ky_M_next).cls = "FileTreeModel" ∧ (ky_M_next).cls ≠ "java/lang/invoke/MethodHandle" ∧ (ky_M_next).cls ≠ "java/lang/invoke/VarHandle" ∧ (parseMethodDescriptor (ky_M_next).desc).map (fun d => d.parameters.length) = some 1 := by decide +kernel
abbrev kc_M_grow : ByteArray := prog_7_method_7_code
abbrev ky_M_grow : MethodName := ⟨"FileTreeModel", "grow", "(I)V"⟩
abbrev kw_M_grow : List Cond := kw ky_M_grow kc_M_grow 3 none
theorem ko_M_grow : ko "FileTreeModel" ky_M_grow kc_M_grow 3 none := ⟨q_447, qs_9, q_7, q_448⟩
theorem kh_M_grow : (ky_M_grow).cls = "FileTreeModel" ∧ (ky_M_grow).cls ≠ "java/lang/invoke/MethodHandle" ∧ (ky_M_grow).cls ≠ "java/lang/invoke/VarHandle" ∧ (parseMethodDescriptor (ky_M_grow).desc).map (fun d => d.parameters.length) = some 1 := by decide +kernel
abbrev kc_M_empty : ByteArray := prog_7_method_8_code
abbrev ky_M_empty : MethodName := ⟨"FileTreeModel", "empty", "(I)V"⟩
abbrev kw_M_empty : List Cond := kw ky_M_empty kc_M_empty 3 none
theorem ko_M_empty : ko "FileTreeModel" ky_M_empty kc_M_empty 3 none := ⟨q_633, qs_35, q_7, q_634⟩
theorem kh_M_empty : (ky_M_empty).cls = "FileTreeModel" ∧ (ky_M_empty).cls ≠ "java/lang/invoke/MethodHandle" ∧ (ky_M_empty).cls ≠ "java/lang/invoke/VarHandle" ∧ (parseMethodDescriptor (ky_M_empty).desc).map (fun d => d.parameters.length) = some 1 := by decide +kernel
abbrev kc_M_ends : ByteArray := prog_7_method_9_code
abbrev ky_M_ends : MethodName := ⟨"FileTreeModel", "ends", "(I)Z"⟩
abbrev kw_M_ends : List Cond := kw ky_M_ends kc_M_ends 2 (some .boolean)
theorem ko_M_ends : ko "FileTreeModel" ky_M_ends kc_M_ends 2 (some .boolean) := ⟨q_629, qs_34, q_7, q_630⟩
theorem kh_M_ends : (ky_M_ends).cls = "FileTreeModel" ∧ (ky_M_ends).cls ≠ "java/lang/invoke/MethodHandle" ∧ (ky_M_ends).cls ≠ "java/lang/invoke/VarHandle" ∧ (parseMethodDescriptor (ky_M_ends).desc).map (fun d => d.parameters.length) = some 1 := by decide +kernel
abbrev kc_M_place : ByteArray := prog_7_method_10_code
abbrev ky_M_place : MethodName := ⟨"FileTreeModel", "place", "(II)I"⟩
abbrev kw_M_place : List Cond := kw ky_M_place kc_M_place 3 (some .int)
theorem ko_M_place : ko "FileTreeModel" ky_M_place kc_M_place 3 (some .int) := ⟨q_467, qs_14, q_7, q_468⟩
theorem kh_M_place : (ky_M_place).cls = "FileTreeModel" ∧ (ky_M_place).cls ≠ "java/lang/invoke/MethodHandle" ∧ (ky_M_place).cls ≠ "java/lang/invoke/VarHandle" ∧ (parseMethodDescriptor (ky_M_place).desc).map (fun d => d.parameters.length) = some 2 := by decide +kernel
abbrev kc_M_isInode : ByteArray := prog_7_method_11_code
abbrev ky_M_isInode : MethodName := ⟨"FileTreeModel", "isInode", "(I)Z"⟩
abbrev kw_M_isInode : List Cond := kw ky_M_isInode kc_M_isInode 1 (some .boolean)
theorem ko_M_isInode : kos ky_M_isInode kc_M_isInode 1 (some .boolean) := ⟨q_551, q_7, q_552⟩
theorem kh_M_isInode : (ky_M_isInode).cls ≠ "java/lang/invoke/MethodHandle" ∧ (ky_M_isInode).cls ≠ "java/lang/invoke/VarHandle" ∧ (parseMethodDescriptor (ky_M_isInode).desc).map (fun d => d.parameters.length) = some 1 := by decide +kernel
abbrev kc_M_there : ByteArray := prog_7_method_12_code
abbrev ky_M_there : MethodName := ⟨"FileTreeModel", "there", "(I)Z"⟩
abbrev kw_M_there : List Cond := kw ky_M_there kc_M_there 2 (some .boolean)
theorem ko_M_there : ko "FileTreeModel" ky_M_there kc_M_there 2 (some .boolean) := ⟨q_548, qs_18, q_7, q_549⟩
theorem kh_M_there : (ky_M_there).cls = "FileTreeModel" ∧ (ky_M_there).cls ≠ "java/lang/invoke/MethodHandle" ∧ (ky_M_there).cls ≠ "java/lang/invoke/VarHandle" ∧ (parseMethodDescriptor (ky_M_there).desc).map (fun d => d.parameters.length) = some 1 := by decide +kernel
abbrev kc_M_numberAt : ByteArray := prog_7_method_13_code
abbrev ky_M_numberAt : MethodName := ⟨"FileTreeModel", "numberAt", "(II)I"⟩
abbrev kw_M_numberAt : List Cond := kw ky_M_numberAt kc_M_numberAt 4 (some .int)
theorem ko_M_numberAt : ko "FileTreeModel" ky_M_numberAt kc_M_numberAt 4 (some .int) := ⟨q_571, qs_23, q_7, q_572⟩
theorem kh_M_numberAt : (ky_M_numberAt).cls = "FileTreeModel" ∧ (ky_M_numberAt).cls ≠ "java/lang/invoke/MethodHandle" ∧ (ky_M_numberAt).cls ≠ "java/lang/invoke/VarHandle" ∧ (parseMethodDescriptor (ky_M_numberAt).desc).map (fun d => d.parameters.length) = some 2 := by decide +kernel
abbrev kc_M_entry : ByteArray := prog_7_method_14_code
abbrev ky_M_entry : MethodName := ⟨"FileTreeModel", "entry", "(I)I"⟩
abbrev kw_M_entry : List Cond := kw ky_M_entry kc_M_entry 6 (some .int)
theorem ko_M_entry : ko "FileTreeModel" ky_M_entry kc_M_entry 6 (some .int) := ⟨q_567, qs_22, q_7, q_568⟩
theorem kh_M_entry : (ky_M_entry).cls = "FileTreeModel" ∧ (ky_M_entry).cls ≠ "java/lang/invoke/MethodHandle" ∧ (ky_M_entry).cls ≠ "java/lang/invoke/VarHandle" ∧ (parseMethodDescriptor (ky_M_entry).desc).map (fun d => d.parameters.length) = some 1 := by decide +kernel
abbrev kc_M_vacant : ByteArray := prog_7_method_15_code
abbrev ky_M_vacant : MethodName := ⟨"FileTreeModel", "vacant", "(I)I"⟩
abbrev kw_M_vacant : List Cond := kw ky_M_vacant kc_M_vacant 3 (some .int)
theorem ko_M_vacant : ko "FileTreeModel" ky_M_vacant kc_M_vacant 3 (some .int) := ⟨q_587, qs_26, q_7, q_588⟩
theorem kh_M_vacant : (ky_M_vacant).cls = "FileTreeModel" ∧ (ky_M_vacant).cls ≠ "java/lang/invoke/MethodHandle" ∧ (ky_M_vacant).cls ≠ "java/lang/invoke/VarHandle" ∧ (parseMethodDescriptor (ky_M_vacant).desc).map (fun d => d.parameters.length) = some 1 := by decide +kernel
abbrev kc_M_wants : ByteArray := prog_7_method_16_code
abbrev ky_M_wants : MethodName := ⟨"FileTreeModel", "wants", "(I)I"⟩
abbrev kw_M_wants : List Cond := kw ky_M_wants kc_M_wants 3 (some .int)
theorem ko_M_wants : ko "FileTreeModel" ky_M_wants kc_M_wants 3 (some .int) := ⟨q_583, qs_25, q_7, q_584⟩
theorem kh_M_wants : (ky_M_wants).cls = "FileTreeModel" ∧ (ky_M_wants).cls ≠ "java/lang/invoke/MethodHandle" ∧ (ky_M_wants).cls ≠ "java/lang/invoke/VarHandle" ∧ (parseMethodDescriptor (ky_M_wants).desc).map (fun d => d.parameters.length) = some 1 := by decide +kernel
abbrev kc_M_lay : ByteArray := prog_7_method_17_code
abbrev ky_M_lay : MethodName := ⟨"FileTreeModel", "lay", "(III)V"⟩
abbrev kw_M_lay : List Cond := kw ky_M_lay kc_M_lay 6 none
theorem ko_M_lay : ko "FileTreeModel" ky_M_lay kc_M_lay 6 none := ⟨q_463, qs_13, q_7, q_464⟩
theorem kh_M_lay : (ky_M_lay).cls = "FileTreeModel" ∧ (ky_M_lay).cls ≠ "java/lang/invoke/MethodHandle" ∧ (ky_M_lay).cls ≠ "java/lang/invoke/VarHandle" ∧ (parseMethodDescriptor (ky_M_lay).desc).map (fun d => d.parameters.length) = some 3 := by decide +kernel
abbrev kc_M_enter : ByteArray := prog_7_method_18_code
abbrev ky_M_enter : MethodName := ⟨"FileTreeModel", "enter", "(II)V"⟩
abbrev kw_M_enter : List Cond := kw ky_M_enter kc_M_enter 4 none
theorem ko_M_enter : ko "FileTreeModel" ky_M_enter kc_M_enter 4 none := ⟨q_605, qs_30, q_7, q_606⟩
theorem kh_M_enter : (ky_M_enter).cls = "FileTreeModel" ∧ (ky_M_enter).cls ≠ "java/lang/invoke/MethodHandle" ∧ (ky_M_enter).cls ≠ "java/lang/invoke/VarHandle" ∧ (parseMethodDescriptor (ky_M_enter).desc).map (fun d => d.parameters.length) = some 2 := by decide +kernel
abbrev kc_M_erase : ByteArray := prog_7_method_19_code
abbrev ky_M_erase : MethodName := ⟨"FileTreeModel", "erase", "(II)V"⟩
abbrev kw_M_erase : List Cond := kw ky_M_erase kc_M_erase 5 none
theorem ko_M_erase : ko "FileTreeModel" ky_M_erase kc_M_erase 5 none := ⟨q_625, qs_33, q_7, q_626⟩
theorem kh_M_erase : (ky_M_erase).cls = "FileTreeModel" ∧ (ky_M_erase).cls ≠ "java/lang/invoke/MethodHandle" ∧ (ky_M_erase).cls ≠ "java/lang/invoke/VarHandle" ∧ (parseMethodDescriptor (ky_M_erase).desc).map (fun d => d.parameters.length) = some 2 := by decide +kernel
abbrev kc_M_dots : ByteArray := prog_7_method_20_code
abbrev ky_M_dots : MethodName := ⟨"FileTreeModel", "dots", "(I)V"⟩
abbrev kw_M_dots : List Cond := kw ky_M_dots kc_M_dots 3 none
theorem ko_M_dots : ko "FileTreeModel" ky_M_dots kc_M_dots 3 none := ⟨q_459, qs_12, q_7, q_460⟩
theorem kh_M_dots : (ky_M_dots).cls = "FileTreeModel" ∧ (ky_M_dots).cls ≠ "java/lang/invoke/MethodHandle" ∧ (ky_M_dots).cls ≠ "java/lang/invoke/VarHandle" ∧ (parseMethodDescriptor (ky_M_dots).desc).map (fun d => d.parameters.length) = some 1 := by decide +kernel
abbrev kc_M_begins : ByteArray := prog_7_method_21_code
abbrev ky_M_begins : MethodName := ⟨"FileTreeModel", "begins", "(II)V"⟩
abbrev kw_M_begins : List Cond := kw ky_M_begins kc_M_begins 3 none
theorem ko_M_begins : ko "FileTreeModel" ky_M_begins kc_M_begins 3 none := ⟨q_443, qs_8, q_7, q_444⟩
theorem kh_M_begins : (ky_M_begins).cls = "FileTreeModel" ∧ (ky_M_begins).cls ≠ "java/lang/invoke/MethodHandle" ∧ (ky_M_begins).cls ≠ "java/lang/invoke/VarHandle" ∧ (parseMethodDescriptor (ky_M_begins).desc).map (fun d => d.parameters.length) = some 2 := by decide +kernel
abbrev kc_M_isDots : ByteArray := prog_7_method_22_code
abbrev ky_M_isDots : MethodName := ⟨"FileTreeModel", "isDots", "()Z"⟩
abbrev kw_M_isDots : List Cond := kw ky_M_isDots kc_M_isDots 1 (some .boolean)
theorem ko_M_isDots : ko "FileTreeModel" ky_M_isDots kc_M_isDots 1 (some .boolean) := ⟨q_617, qs_31, q_7, q_618⟩
theorem kh_M_isDots : (ky_M_isDots).cls = "FileTreeModel" ∧ (ky_M_isDots).cls ≠ "java/lang/invoke/MethodHandle" ∧ (ky_M_isDots).cls ≠ "java/lang/invoke/VarHandle" ∧ (parseMethodDescriptor (ky_M_isDots).desc).map (fun d => d.parameters.length) = some 0 := by decide +kernel
abbrev kc_M_slashes : ByteArray := prog_7_method_23_code
abbrev ky_M_slashes : MethodName := ⟨"FileTreeModel", "slashes", "()V"⟩
abbrev kw_M_slashes : List Cond := kw ky_M_slashes kc_M_slashes 1 none
theorem ko_M_slashes : ko "FileTreeModel" ky_M_slashes kc_M_slashes 1 none := ⟨q_559, qs_20, q_7, q_560⟩
theorem kh_M_slashes : (ky_M_slashes).cls = "FileTreeModel" ∧ (ky_M_slashes).cls ≠ "java/lang/invoke/MethodHandle" ∧ (ky_M_slashes).cls ≠ "java/lang/invoke/VarHandle" ∧ (parseMethodDescriptor (ky_M_slashes).desc).map (fun d => d.parameters.length) = some 0 := by decide +kernel
abbrev kc_M_named : ByteArray := prog_7_method_24_code
abbrev ky_M_named : MethodName := ⟨"FileTreeModel", "named", "()Z"⟩
abbrev kw_M_named : List Cond := kw ky_M_named kc_M_named 3 (some .boolean)
theorem ko_M_named : ko "FileTreeModel" ky_M_named kc_M_named 3 (some .boolean) := ⟨q_555, qs_19, q_7, q_556⟩
theorem kh_M_named : (ky_M_named).cls = "FileTreeModel" ∧ (ky_M_named).cls ≠ "java/lang/invoke/MethodHandle" ∧ (ky_M_named).cls ≠ "java/lang/invoke/VarHandle" ∧ (parseMethodDescriptor (ky_M_named).desc).map (fun d => d.parameters.length) = some 0 := by decide +kernel
abbrev kc_M_begin : ByteArray := prog_7_method_25_code
abbrev ky_M_begin : MethodName := ⟨"FileTreeModel", "begin", "(III)I"⟩
abbrev kw_M_begin : List Cond := kw ky_M_begin kc_M_begin 6 (some .int)
theorem ko_M_begin : ko "FileTreeModel" ky_M_begin kc_M_begin 6 (some .int) := ⟨q_544, qs_17, q_7, q_545⟩
theorem kh_M_begin : (ky_M_begin).cls = "FileTreeModel" ∧ (ky_M_begin).cls ≠ "java/lang/invoke/MethodHandle" ∧ (ky_M_begin).cls ≠ "java/lang/invoke/VarHandle" ∧ (parseMethodDescriptor (ky_M_begin).desc).map (fun d => d.parameters.length) = some 3 := by decide +kernel
abbrev kc_M_step : ByteArray := prog_7_method_26_code
abbrev ky_M_step : MethodName := ⟨"FileTreeModel", "step", "(I)I"⟩
abbrev kw_M_step : List Cond := kw ky_M_step kc_M_step 3 (some .int)
theorem ko_M_step : ko "FileTreeModel" ky_M_step kc_M_step 3 (some .int) := ⟨q_563, qs_21, q_7, q_564⟩
theorem kh_M_step : (ky_M_step).cls = "FileTreeModel" ∧ (ky_M_step).cls ≠ "java/lang/invoke/MethodHandle" ∧ (ky_M_step).cls ≠ "java/lang/invoke/VarHandle" ∧ (parseMethodDescriptor (ky_M_step).desc).map (fun d => d.parameters.length) = some 1 := by decide +kernel
abbrev kc_M_leads : ByteArray := prog_7_method_27_code
abbrev ky_M_leads : MethodName := ⟨"FileTreeModel", "leads", "(III)I"⟩
abbrev kw_M_leads : List Cond := kw ky_M_leads kc_M_leads 5 (some .int)
theorem ko_M_leads : ko "FileTreeModel" ky_M_leads kc_M_leads 5 (some .int) := ⟨q_540, qs_16, q_7, q_541⟩
theorem kh_M_leads : (ky_M_leads).cls = "FileTreeModel" ∧ (ky_M_leads).cls ≠ "java/lang/invoke/MethodHandle" ∧ (ky_M_leads).cls ≠ "java/lang/invoke/VarHandle" ∧ (parseMethodDescriptor (ky_M_leads).desc).map (fun d => d.parameters.length) = some 3 := by decide +kernel
abbrev kc_M_before : ByteArray := prog_7_method_28_code
abbrev ky_M_before : MethodName := ⟨"FileTreeModel", "before", "(III)I"⟩
abbrev kw_M_before : List Cond := kw ky_M_before kc_M_before 7 (some .int)
theorem ko_M_before : ko "FileTreeModel" ky_M_before kc_M_before 7 (some .int) := ⟨q_579, qs_24, q_7, q_580⟩
theorem kh_M_before : (ky_M_before).cls = "FileTreeModel" ∧ (ky_M_before).cls ≠ "java/lang/invoke/MethodHandle" ∧ (ky_M_before).cls ≠ "java/lang/invoke/VarHandle" ∧ (parseMethodDescriptor (ky_M_before).desc).map (fun d => d.parameters.length) = some 3 := by decide +kernel
abbrev kc_M_write : ByteArray := prog_7_method_29_code
abbrev ky_M_write : MethodName := ⟨"FileTreeModel", "write", "(J)Z"⟩
abbrev kw_M_write : List Cond := kw ky_M_write kc_M_write 6 (some .boolean)
theorem ko_M_write : ko "FileTreeModel" ky_M_write kc_M_write 6 (some .boolean) := ⟨q_526, q_527, q_7, q_528⟩
theorem kh_M_write : (ky_M_write).cls = "FileTreeModel" ∧ (ky_M_write).cls ≠ "java/lang/invoke/MethodHandle" ∧ (ky_M_write).cls ≠ "java/lang/invoke/VarHandle" ∧ (parseMethodDescriptor (ky_M_write).desc).map (fun d => d.parameters.length) = some 1 := by decide +kernel
abbrev kc_M_taken : ByteArray := prog_7_method_30_code
abbrev ky_M_taken : MethodName := ⟨"FileTreeModel", "taken", "()I"⟩
abbrev kw_M_taken : List Cond := kw ky_M_taken kc_M_taken 2 (some .int)
theorem ko_M_taken : ko "FileTreeModel" ky_M_taken kc_M_taken 2 (some .int) := ⟨q_536, qs_15, q_7, q_537⟩
theorem kh_M_taken : (ky_M_taken).cls = "FileTreeModel" ∧ (ky_M_taken).cls ≠ "java/lang/invoke/MethodHandle" ∧ (ky_M_taken).cls ≠ "java/lang/invoke/VarHandle" ∧ (parseMethodDescriptor (ky_M_taken).desc).map (fun d => d.parameters.length) = some 0 := by decide +kernel
abbrev kc_M_find : ByteArray := prog_7_method_31_code
abbrev ky_M_find : MethodName := ⟨"FileTreeModel", "find", "(I)I"⟩
abbrev kw_M_find : List Cond := kw ky_M_find kc_M_find 3 (some .int)
theorem ko_M_find : ko "FileTreeModel" ky_M_find kc_M_find 3 (some .int) := ⟨q_531, q_532, q_7, q_533⟩
theorem kh_M_find : (ky_M_find).cls = "FileTreeModel" ∧ (ky_M_find).cls ≠ "java/lang/invoke/MethodHandle" ∧ (ky_M_find).cls ≠ "java/lang/invoke/VarHandle" ∧ (parseMethodDescriptor (ky_M_find).desc).map (fun d => d.parameters.length) = some 1 := by decide +kernel
abbrev kc_M_create : ByteArray := prog_7_method_32_code
abbrev ky_M_create : MethodName := ⟨"FileTreeModel", "create", "(IIII)I"⟩
abbrev kw_M_create : List Cond := kw ky_M_create kc_M_create 8 (some .int)
theorem ko_M_create : ko "FileTreeModel" ky_M_create kc_M_create 8 (some .int) := ⟨q_574, q_575, q_7, q_576⟩
theorem kh_M_create : (ky_M_create).cls = "FileTreeModel" ∧ (ky_M_create).cls ≠ "java/lang/invoke/MethodHandle" ∧ (ky_M_create).cls ≠ "java/lang/invoke/VarHandle" ∧ (parseMethodDescriptor (ky_M_create).desc).map (fun d => d.parameters.length) = some 4 := by decide +kernel
abbrev kc_M_again : ByteArray := prog_7_method_33_code
abbrev ky_M_again : MethodName := ⟨"FileTreeModel", "again", "()V"⟩
abbrev kw_M_again : List Cond := kw ky_M_again kc_M_again 3 none
theorem ko_M_again : ko "FileTreeModel" ky_M_again kc_M_again 3 none := ⟨q_601, qs_29, q_7, q_602⟩
theorem kh_M_again : (ky_M_again).cls = "FileTreeModel" ∧ (ky_M_again).cls ≠ "java/lang/invoke/MethodHandle" ∧ (ky_M_again).cls ≠ "java/lang/invoke/VarHandle" ∧ (parseMethodDescriptor (ky_M_again).desc).map (fun d => d.parameters.length) = some 0 := by decide +kernel
abbrev kc_M_link : ByteArray := prog_7_method_34_code
abbrev ky_M_link : MethodName := ⟨"FileTreeModel", "link", "(I)I"⟩
abbrev kw_M_link : List Cond := kw ky_M_link kc_M_link 6 (some .int)
theorem ko_M_link : ko "FileTreeModel" ky_M_link kc_M_link 6 (some .int) := ⟨q_608, q_609, q_7, q_610⟩
theorem kh_M_link : (ky_M_link).cls = "FileTreeModel" ∧ (ky_M_link).cls ≠ "java/lang/invoke/MethodHandle" ∧ (ky_M_link).cls ≠ "java/lang/invoke/VarHandle" ∧ (parseMethodDescriptor (ky_M_link).desc).map (fun d => d.parameters.length) = some 1 := by decide +kernel
abbrev kc_M_isBare : ByteArray := prog_7_method_35_code
abbrev ky_M_isBare : MethodName := ⟨"FileTreeModel", "isBare", "(I)Z"⟩
abbrev kw_M_isBare : List Cond := kw ky_M_isBare kc_M_isBare 4 (some .boolean)
theorem ko_M_isBare : ko "FileTreeModel" ky_M_isBare kc_M_isBare 4 (some .boolean) := ⟨q_621, qs_32, q_7, q_622⟩
theorem kh_M_isBare : (ky_M_isBare).cls = "FileTreeModel" ∧ (ky_M_isBare).cls ≠ "java/lang/invoke/MethodHandle" ∧ (ky_M_isBare).cls ≠ "java/lang/invoke/VarHandle" ∧ (parseMethodDescriptor (ky_M_isBare).desc).map (fun d => d.parameters.length) = some 1 := by decide +kernel
abbrev kc_M_unlink : ByteArray := prog_7_method_36_code
abbrev ky_M_unlink : MethodName := ⟨"FileTreeModel", "unlink", "(I)I"⟩
abbrev kw_M_unlink : List Cond := kw ky_M_unlink kc_M_unlink 6 (some .int)
theorem ko_M_unlink : ko "FileTreeModel" ky_M_unlink kc_M_unlink 6 (some .int) := ⟨q_612, q_613, q_7, q_614⟩
theorem kh_M_unlink : (ky_M_unlink).cls = "FileTreeModel" ∧ (ky_M_unlink).cls ≠ "java/lang/invoke/MethodHandle" ∧ (ky_M_unlink).cls ≠ "java/lang/invoke/VarHandle" ∧ (parseMethodDescriptor (ky_M_unlink).desc).map (fun d => d.parameters.length) = some 1 := by decide +kernel
abbrev kc_M_hold : ByteArray := prog_7_method_37_code
abbrev ky_M_hold : MethodName := ⟨"FileTreeModel", "hold", "(I)Z"⟩
abbrev kw_M_hold : List Cond := kw ky_M_hold kc_M_hold 2 (some .boolean)
theorem ko_M_hold : ko "FileTreeModel" ky_M_hold kc_M_hold 2 (some .boolean) := ⟨q_636, q_637, q_7, q_638⟩
theorem kh_M_hold : (ky_M_hold).cls = "FileTreeModel" ∧ (ky_M_hold).cls ≠ "java/lang/invoke/MethodHandle" ∧ (ky_M_hold).cls ≠ "java/lang/invoke/VarHandle" ∧ (parseMethodDescriptor (ky_M_hold).desc).map (fun d => d.parameters.length) = some 1 := by decide +kernel
abbrev kc_M_leave : ByteArray := prog_7_method_38_code
abbrev ky_M_leave : MethodName := ⟨"FileTreeModel", "leave", "(I)Z"⟩
abbrev kw_M_leave : List Cond := kw ky_M_leave kc_M_leave 3 (some .boolean)
theorem ko_M_leave : ko "FileTreeModel" ky_M_leave kc_M_leave 3 (some .boolean) := ⟨q_640, q_641, q_7, q_642⟩
theorem kh_M_leave : (ky_M_leave).cls = "FileTreeModel" ∧ (ky_M_leave).cls ≠ "java/lang/invoke/MethodHandle" ∧ (ky_M_leave).cls ≠ "java/lang/invoke/VarHandle" ∧ (parseMethodDescriptor (ky_M_leave).desc).map (fun d => d.parameters.length) = some 1 := by decide +kernel
abbrev kc_M_read : ByteArray := prog_7_method_39_code
abbrev ky_M_read : MethodName := ⟨"FileTreeModel", "read", "(III)I"⟩
abbrev kw_M_read : List Cond := kw ky_M_read kc_M_read 5 (some .int)
theorem ko_M_read : ko "FileTreeModel" ky_M_read kc_M_read 5 (some .int) := ⟨q_644, q_645, q_7, q_646⟩
theorem kh_M_read : (ky_M_read).cls = "FileTreeModel" ∧ (ky_M_read).cls ≠ "java/lang/invoke/MethodHandle" ∧ (ky_M_read).cls ≠ "java/lang/invoke/VarHandle" ∧ (parseMethodDescriptor (ky_M_read).desc).map (fun d => d.parameters.length) = some 3 := by decide +kernel
abbrev kc_M_save : ByteArray := prog_7_method_40_code
abbrev ky_M_save : MethodName := ⟨"FileTreeModel", "save", "(III)I"⟩
abbrev kw_M_save : List Cond := kw ky_M_save kc_M_save 6 (some .int)
theorem ko_M_save : ko "FileTreeModel" ky_M_save kc_M_save 6 (some .int) := ⟨q_648, q_649, q_7, q_650⟩
theorem kh_M_save : (ky_M_save).cls = "FileTreeModel" ∧ (ky_M_save).cls ≠ "java/lang/invoke/MethodHandle" ∧ (ky_M_save).cls ≠ "java/lang/invoke/VarHandle" ∧ (parseMethodDescriptor (ky_M_save).desc).map (fun d => d.parameters.length) = some 3 := by decide +kernel
abbrev kc_M_clear : ByteArray := prog_7_method_41_code
abbrev ky_M_clear : MethodName := ⟨"FileTreeModel", "clear", "(I)Z"⟩
abbrev kw_M_clear : List Cond := kw ky_M_clear kc_M_clear 2 (some .boolean)
theorem ko_M_clear : ko "FileTreeModel" ky_M_clear kc_M_clear 2 (some .boolean) := ⟨q_652, q_653, q_7, q_654⟩
theorem kh_M_clear : (ky_M_clear).cls = "FileTreeModel" ∧ (ky_M_clear).cls ≠ "java/lang/invoke/MethodHandle" ∧ (ky_M_clear).cls ≠ "java/lang/invoke/VarHandle" ∧ (parseMethodDescriptor (ky_M_clear).desc).map (fun d => d.parameters.length) = some 1 := by decide +kernel
abbrev kc_M_about : ByteArray := prog_7_method_42_code
abbrev ky_M_about : MethodName := ⟨"FileTreeModel", "about", "(II)I"⟩
abbrev kw_M_about : List Cond := kw ky_M_about kc_M_about 3 (some .int)
theorem ko_M_about : ko "FileTreeModel" ky_M_about kc_M_about 3 (some .int) := ⟨q_656, q_657, q_7, q_658⟩
theorem kh_M_about : (ky_M_about).cls = "FileTreeModel" ∧ (ky_M_about).cls ≠ "java/lang/invoke/MethodHandle" ∧ (ky_M_about).cls ≠ "java/lang/invoke/VarHandle" ∧ (parseMethodDescriptor (ky_M_about).desc).map (fun d => d.parameters.length) = some 2 := by decide +kernel
abbrev kc_M_free : ByteArray := prog_7_method_43_code
abbrev ky_M_free : MethodName := ⟨"FileTreeModel", "free", "()I"⟩
abbrev kw_M_free : List Cond := kw ky_M_free kc_M_free 1 (some .int)
theorem ko_M_free : ko "FileTreeModel" ky_M_free kc_M_free 1 (some .int) := ⟨q_660, q_661, q_7, q_662⟩
theorem kh_M_free : (ky_M_free).cls = "FileTreeModel" ∧ (ky_M_free).cls ≠ "java/lang/invoke/MethodHandle" ∧ (ky_M_free).cls ≠ "java/lang/invoke/VarHandle" ∧ (parseMethodDescriptor (ky_M_free).desc).map (fun d => d.parameters.length) = some 0 := by decide +kernel
abbrev kc_M_forget : ByteArray := prog_7_method_44_code
abbrev ky_M_forget : MethodName := ⟨"FileTreeModel", "forget", "()I"⟩
abbrev kw_M_forget : List Cond := kw ky_M_forget kc_M_forget 3 (some .int)
theorem ko_M_forget : ko "FileTreeModel" ky_M_forget kc_M_forget 3 (some .int) := ⟨q_664, q_665, q_7, q_666⟩
theorem kh_M_forget : (ky_M_forget).cls = "FileTreeModel" ∧ (ky_M_forget).cls ≠ "java/lang/invoke/MethodHandle" ∧ (ky_M_forget).cls ≠ "java/lang/invoke/VarHandle" ∧ (parseMethodDescriptor (ky_M_forget).desc).map (fun d => d.parameters.length) = some 0 := by decide +kernel
abbrev kc_M_fill : ByteArray := prog_7_method_45_code
abbrev ky_M_fill : MethodName := ⟨"FileTreeModel", "fill", "(III)Z"⟩
abbrev kw_M_fill : List Cond := kw ky_M_fill kc_M_fill 5 (some .boolean)
theorem ko_M_fill : ko "FileTreeModel" ky_M_fill kc_M_fill 5 (some .boolean) := ⟨q_668, q_669, q_7, q_670⟩
theorem kh_M_fill : (ky_M_fill).cls = "FileTreeModel" ∧ (ky_M_fill).cls ≠ "java/lang/invoke/MethodHandle" ∧ (ky_M_fill).cls ≠ "java/lang/invoke/VarHandle" ∧ (parseMethodDescriptor (ky_M_fill).desc).map (fun d => d.parameters.length) = some 3 := by decide +kernel
abbrev kc_M_at : ByteArray := prog_7_method_46_code
abbrev ky_M_at : MethodName := ⟨"FileTreeModel", "at", "(I)I"⟩
abbrev kw_M_at : List Cond := kw ky_M_at kc_M_at 2 (some .int)
theorem ko_M_at : ko "FileTreeModel" ky_M_at kc_M_at 2 (some .int) := ⟨q_672, q_673, q_7, q_674⟩
theorem kh_M_at : (ky_M_at).cls = "FileTreeModel" ∧ (ky_M_at).cls ≠ "java/lang/invoke/MethodHandle" ∧ (ky_M_at).cls ≠ "java/lang/invoke/VarHandle" ∧ (parseMethodDescriptor (ky_M_at).desc).map (fun d => d.parameters.length) = some 1 := by decide +kernel
abbrev kc_M_of : ByteArray := prog_7_method_47_code
abbrev ky_M_of : MethodName := ⟨"FileTreeModel", "of", "(II)I"⟩
abbrev kw_M_of : List Cond := kw ky_M_of kc_M_of 2 (some .int)
theorem ko_M_of : kos ky_M_of kc_M_of 2 (some .int) := ⟨q_684, q_7, q_685⟩
theorem kh_M_of : (ky_M_of).cls ≠ "java/lang/invoke/MethodHandle" ∧ (ky_M_of).cls ≠ "java/lang/invoke/VarHandle" ∧ (parseMethodDescriptor (ky_M_of).desc).map (fun d => d.parameters.length) = some 2 := by decide +kernel
abbrev kc_M_superByte : ByteArray := prog_7_method_48_code
abbrev ky_M_superByte : MethodName := ⟨"FileTreeModel", "superByte", "(I)I"⟩
abbrev kw_M_superByte : List Cond := kw ky_M_superByte kc_M_superByte 2 (some .int)
theorem ko_M_superByte : ko "FileTreeModel" ky_M_superByte kc_M_superByte 2 (some .int) := ⟨q_681, qs_36, q_7, q_682⟩
theorem kh_M_superByte : (ky_M_superByte).cls = "FileTreeModel" ∧ (ky_M_superByte).cls ≠ "java/lang/invoke/MethodHandle" ∧ (ky_M_superByte).cls ≠ "java/lang/invoke/VarHandle" ∧ (parseMethodDescriptor (ky_M_superByte).desc).map (fun d => d.parameters.length) = some 1 := by decide +kernel
abbrev kc_M_inodeByte : ByteArray := prog_7_method_49_code
abbrev ky_M_inodeByte : MethodName := ⟨"FileTreeModel", "inodeByte", "(II)I"⟩
abbrev kw_M_inodeByte : List Cond := kw ky_M_inodeByte kc_M_inodeByte 4 (some .int)
theorem ko_M_inodeByte : ko "FileTreeModel" ky_M_inodeByte kc_M_inodeByte 4 (some .int) := ⟨q_692, qs_38, q_7, q_693⟩
theorem kh_M_inodeByte : (ky_M_inodeByte).cls = "FileTreeModel" ∧ (ky_M_inodeByte).cls ≠ "java/lang/invoke/MethodHandle" ∧ (ky_M_inodeByte).cls ≠ "java/lang/invoke/VarHandle" ∧ (parseMethodDescriptor (ky_M_inodeByte).desc).map (fun d => d.parameters.length) = some 2 := by decide +kernel
abbrev kc_M_mapByte : ByteArray := prog_7_method_50_code
abbrev ky_M_mapByte : MethodName := ⟨"FileTreeModel", "mapByte", "(I)I"⟩
abbrev kw_M_mapByte : List Cond := kw ky_M_mapByte kc_M_mapByte 4 (some .int)
theorem ko_M_mapByte : ko "FileTreeModel" ky_M_mapByte kc_M_mapByte 4 (some .int) := ⟨q_688, qs_37, q_7, q_689⟩
theorem kh_M_mapByte : (ky_M_mapByte).cls = "FileTreeModel" ∧ (ky_M_mapByte).cls ≠ "java/lang/invoke/MethodHandle" ∧ (ky_M_mapByte).cls ≠ "java/lang/invoke/VarHandle" ∧ (parseMethodDescriptor (ky_M_mapByte).desc).map (fun d => d.parameters.length) = some 1 := by decide +kernel
abbrev kc_M_peek : ByteArray := prog_7_method_51_code
abbrev ky_M_peek : MethodName := ⟨"FileTreeModel", "peek", "(II)I"⟩
abbrev kw_M_peek : List Cond := kw ky_M_peek kc_M_peek 3 (some .int)
theorem ko_M_peek : ko "FileTreeModel" ky_M_peek kc_M_peek 3 (some .int) := ⟨q_676, q_677, q_7, q_678⟩
theorem kh_M_peek : (ky_M_peek).cls = "FileTreeModel" ∧ (ky_M_peek).cls ≠ "java/lang/invoke/MethodHandle" ∧ (ky_M_peek).cls ≠ "java/lang/invoke/VarHandle" ∧ (parseMethodDescriptor (ky_M_peek).desc).map (fun d => d.parameters.length) = some 2 := by decide +kernel
abbrev kc_D_init : ByteArray := prog_2_method_1_code
abbrev ky_D_init : MethodName := ⟨"FileTree$Directories", "<init>", "()V"⟩
abbrev kw_D_init : List Cond := kw ky_D_init kc_D_init 1 none
abbrev kc_D_entryNamed : ByteArray := prog_2_method_2_code
abbrev ky_D_entryNamed : MethodName := ⟨"FileTree$Directories", "entryNamed", "(I[B)I"⟩
abbrev kw_D_entryNamed : List Cond := kw ky_D_entryNamed kc_D_entryNamed 6 (some .int)
theorem ko_D_entryNamed : ko "FileTree$Directories" ky_D_entryNamed kc_D_entryNamed 6 (some .int) := ⟨q_263, q_264, q_2, q_265⟩
theorem kh_D_entryNamed : (ky_D_entryNamed).cls = "FileTree$Directories" ∧ (ky_D_entryNamed).cls ≠ "java/lang/invoke/MethodHandle" ∧ (ky_D_entryNamed).cls ≠ "java/lang/invoke/VarHandle" ∧ (parseMethodDescriptor (ky_D_entryNamed).desc).map (fun d => d.parameters.length) = some 2 := by decide +kernel
abbrev kc_D_hasOnlyItsTwo : ByteArray := prog_2_method_3_code
abbrev ky_D_hasOnlyItsTwo : MethodName := ⟨"FileTree$Directories", "hasOnlyItsTwo", "(I)Z"⟩
abbrev kw_D_hasOnlyItsTwo : List Cond := kw ky_D_hasOnlyItsTwo kc_D_hasOnlyItsTwo 4 (some .boolean)
theorem ko_D_hasOnlyItsTwo : ko "FileTree$Directories" ky_D_hasOnlyItsTwo kc_D_hasOnlyItsTwo 4 (some .boolean) := ⟨q_321, q_322, q_2, q_323⟩
theorem kh_D_hasOnlyItsTwo : (ky_D_hasOnlyItsTwo).cls = "FileTree$Directories" ∧ (ky_D_hasOnlyItsTwo).cls ≠ "java/lang/invoke/MethodHandle" ∧ (ky_D_hasOnlyItsTwo).cls ≠ "java/lang/invoke/VarHandle" ∧ (parseMethodDescriptor (ky_D_hasOnlyItsTwo).desc).map (fun d => d.parameters.length) = some 1 := by decide +kernel
abbrev kc_D_hasRoom : ByteArray := prog_2_method_4_code
abbrev ky_D_hasRoom : MethodName := ⟨"FileTree$Directories", "hasRoom", "(II)Z"⟩
abbrev kw_D_hasRoom : List Cond := kw ky_D_hasRoom kc_D_hasRoom 5 (some .boolean)
theorem ko_D_hasRoom : ko "FileTree$Directories" ky_D_hasRoom kc_D_hasRoom 5 (some .boolean) := ⟨q_294, q_295, q_2, q_296⟩
theorem kh_D_hasRoom : (ky_D_hasRoom).cls = "FileTree$Directories" ∧ (ky_D_hasRoom).cls ≠ "java/lang/invoke/MethodHandle" ∧ (ky_D_hasRoom).cls ≠ "java/lang/invoke/VarHandle" ∧ (parseMethodDescriptor (ky_D_hasRoom).desc).map (fun d => d.parameters.length) = some 2 := by decide +kernel
abbrev kc_D_addEntry : ByteArray := prog_2_method_5_code
abbrev ky_D_addEntry : MethodName := ⟨"FileTree$Directories", "addEntry", "(I[BI)V"⟩
abbrev kw_D_addEntry : List Cond := kw ky_D_addEntry kc_D_addEntry 6 none
theorem ko_D_addEntry : ko "FileTree$Directories" ky_D_addEntry kc_D_addEntry 6 none := ⟨q_126, q_127, q_2, q_128⟩
theorem kh_D_addEntry : (ky_D_addEntry).cls = "FileTree$Directories" ∧ (ky_D_addEntry).cls ≠ "java/lang/invoke/MethodHandle" ∧ (ky_D_addEntry).cls ≠ "java/lang/invoke/VarHandle" ∧ (parseMethodDescriptor (ky_D_addEntry).desc).map (fun d => d.parameters.length) = some 3 := by decide +kernel
abbrev kc_D_wipeEntry : ByteArray := prog_2_method_6_code
abbrev ky_D_wipeEntry : MethodName := ⟨"FileTree$Directories", "wipeEntry", "(I)V"⟩
abbrev kw_D_wipeEntry : List Cond := kw ky_D_wipeEntry kc_D_wipeEntry 2 none
theorem ko_D_wipeEntry : ko "FileTree$Directories" ky_D_wipeEntry kc_D_wipeEntry 2 none := ⟨q_329, q_330, q_2, q_331⟩
theorem kh_D_wipeEntry : (ky_D_wipeEntry).cls = "FileTree$Directories" ∧ (ky_D_wipeEntry).cls ≠ "java/lang/invoke/MethodHandle" ∧ (ky_D_wipeEntry).cls ≠ "java/lang/invoke/VarHandle" ∧ (parseMethodDescriptor (ky_D_wipeEntry).desc).map (fun d => d.parameters.length) = some 1 := by decide +kernel
abbrev kc_D_begin : ByteArray := prog_2_method_7_code
abbrev ky_D_begin : MethodName := ⟨"FileTree$Directories", "begin", "(II)V"⟩
abbrev kw_D_begin : List Cond := kw ky_D_begin kc_D_begin 3 none
theorem ko_D_begin : ko "FileTree$Directories" ky_D_begin kc_D_begin 3 none := ⟨q_120, q_121, q_2, q_122⟩
theorem kh_D_begin : (ky_D_begin).cls = "FileTree$Directories" ∧ (ky_D_begin).cls ≠ "java/lang/invoke/MethodHandle" ∧ (ky_D_begin).cls ≠ "java/lang/invoke/VarHandle" ∧ (parseMethodDescriptor (ky_D_begin).desc).map (fun d => d.parameters.length) = some 2 := by decide +kernel
abbrev kc_D_end : ByteArray := prog_2_method_8_code
abbrev ky_D_end : MethodName := ⟨"FileTree$Directories", "end", "(II)V"⟩
abbrev kw_D_end : List Cond := kw ky_D_end kc_D_end 3 none
theorem ko_D_end : ko "FileTree$Directories" ky_D_end kc_D_end 3 none := ⟨q_325, q_326, q_2, q_327⟩
theorem kh_D_end : (ky_D_end).cls = "FileTree$Directories" ∧ (ky_D_end).cls ≠ "java/lang/invoke/MethodHandle" ∧ (ky_D_end).cls ≠ "java/lang/invoke/VarHandle" ∧ (parseMethodDescriptor (ky_D_end).desc).map (fun d => d.parameters.length) = some 2 := by decide +kernel
abbrev kc_D_sizeOf : ByteArray := prog_2_method_9_code
abbrev ky_D_sizeOf : MethodName := ⟨"FileTree$Directories", "sizeOf", "(I)I"⟩
abbrev kw_D_sizeOf : List Cond := kw ky_D_sizeOf kc_D_sizeOf 2 (some .int)
theorem ko_D_sizeOf : ko "FileTree$Directories" ky_D_sizeOf kc_D_sizeOf 2 (some .int) := ⟨q_135, qs_3, q_2, q_136⟩
theorem kh_D_sizeOf : (ky_D_sizeOf).cls = "FileTree$Directories" ∧ (ky_D_sizeOf).cls ≠ "java/lang/invoke/MethodHandle" ∧ (ky_D_sizeOf).cls ≠ "java/lang/invoke/VarHandle" ∧ (parseMethodDescriptor (ky_D_sizeOf).desc).map (fun d => d.parameters.length) = some 1 := by decide +kernel
abbrev kc_D_freeEntry : ByteArray := prog_2_method_10_code
abbrev ky_D_freeEntry : MethodName := ⟨"FileTree$Directories", "freeEntry", "(I)I"⟩
abbrev kw_D_freeEntry : List Cond := kw ky_D_freeEntry kc_D_freeEntry 5 (some .int)
theorem ko_D_freeEntry : ko "FileTree$Directories" ky_D_freeEntry kc_D_freeEntry 5 (some .int) := ⟨q_131, qs_2, q_2, q_132⟩
theorem kh_D_freeEntry : (ky_D_freeEntry).cls = "FileTree$Directories" ∧ (ky_D_freeEntry).cls ≠ "java/lang/invoke/MethodHandle" ∧ (ky_D_freeEntry).cls ≠ "java/lang/invoke/VarHandle" ∧ (parseMethodDescriptor (ky_D_freeEntry).desc).map (fun d => d.parameters.length) = some 1 := by decide +kernel
abbrev kc_D_hasName : ByteArray := prog_2_method_11_code
abbrev ky_D_hasName : MethodName := ⟨"FileTree$Directories", "hasName", "(I[B)Z"⟩
abbrev kw_D_hasName : List Cond := kw ky_D_hasName kc_D_hasName 4 (some .boolean)
theorem ko_D_hasName : ko "FileTree$Directories" ky_D_hasName kc_D_hasName 4 (some .boolean) := ⟨q_268, qs_7, q_2, q_269⟩
theorem kh_D_hasName : (ky_D_hasName).cls = "FileTree$Directories" ∧ (ky_D_hasName).cls ≠ "java/lang/invoke/MethodHandle" ∧ (ky_D_hasName).cls ≠ "java/lang/invoke/VarHandle" ∧ (parseMethodDescriptor (ky_D_hasName).desc).map (fun d => d.parameters.length) = some 2 := by decide +kernel
abbrev kc_D_nameByte : ByteArray := prog_2_method_12_code
abbrev ky_D_nameByte : MethodName := ⟨"FileTree$Directories", "nameByte", "([BI)I"⟩
abbrev kw_D_nameByte : List Cond := kw ky_D_nameByte kc_D_nameByte 3 (some .int)
theorem ko_D_nameByte : ko "FileTree$Directories" ky_D_nameByte kc_D_nameByte 3 (some .int) := ⟨q_195, qs_5, q_2, q_196⟩
theorem kh_D_nameByte : (ky_D_nameByte).cls = "FileTree$Directories" ∧ (ky_D_nameByte).cls ≠ "java/lang/invoke/MethodHandle" ∧ (ky_D_nameByte).cls ≠ "java/lang/invoke/VarHandle" ∧ (parseMethodDescriptor (ky_D_nameByte).desc).map (fun d => d.parameters.length) = some 2 := by decide +kernel
abbrev kc_K_init : ByteArray := prog_3_method_1_code
abbrev ky_K_init : MethodName := ⟨"FileTree$Disk", "<init>", "()V"⟩
abbrev kw_K_init : List Cond := kw ky_K_init kc_K_init 1 none
abbrev kc_K_numberAt : ByteArray := prog_3_method_2_code
abbrev ky_K_numberAt : MethodName := ⟨"FileTree$Disk", "numberAt", "(I)I"⟩
abbrev kw_K_numberAt : List Cond := kw ky_K_numberAt kc_K_numberAt 3 (some .int)
theorem ko_K_numberAt : ko "FileTree$Disk" ky_K_numberAt kc_K_numberAt 3 (some .int) := ⟨q_147, q_148, q_4, q_149⟩
theorem kh_K_numberAt : (ky_K_numberAt).cls = "FileTree$Disk" ∧ (ky_K_numberAt).cls ≠ "java/lang/invoke/MethodHandle" ∧ (ky_K_numberAt).cls ≠ "java/lang/invoke/VarHandle" ∧ (parseMethodDescriptor (ky_K_numberAt).desc).map (fun d => d.parameters.length) = some 1 := by decide +kernel
abbrev kc_K_setNumber : ByteArray := prog_3_method_3_code
abbrev ky_K_setNumber : MethodName := ⟨"FileTree$Disk", "setNumber", "(II)V"⟩
abbrev kw_K_setNumber : List Cond := kw ky_K_setNumber kc_K_setNumber 4 none
theorem ko_K_setNumber : ko "FileTree$Disk" ky_K_setNumber kc_K_setNumber 4 none := ⟨q_88, q_89, q_4, q_90⟩
theorem kh_K_setNumber : (ky_K_setNumber).cls = "FileTree$Disk" ∧ (ky_K_setNumber).cls ≠ "java/lang/invoke/MethodHandle" ∧ (ky_K_setNumber).cls ≠ "java/lang/invoke/VarHandle" ∧ (parseMethodDescriptor (ky_K_setNumber).desc).map (fun d => d.parameters.length) = some 2 := by decide +kernel
abbrev kc_K_partAt : ByteArray := prog_3_method_4_code
abbrev ky_K_partAt : MethodName := ⟨"FileTree$Disk", "partAt", "(II)I"⟩
abbrev kw_K_partAt : List Cond := kw ky_K_partAt kc_K_partAt 5 (some .int)
theorem ko_K_partAt : ko "FileTree$Disk" ky_K_partAt kc_K_partAt 5 (some .int) := ⟨q_97, q_98, q_4, q_99⟩
theorem kh_K_partAt : (ky_K_partAt).cls = "FileTree$Disk" ∧ (ky_K_partAt).cls ≠ "java/lang/invoke/MethodHandle" ∧ (ky_K_partAt).cls ≠ "java/lang/invoke/VarHandle" ∧ (parseMethodDescriptor (ky_K_partAt).desc).map (fun d => d.parameters.length) = some 2 := by decide +kernel
abbrev kc_K_setPart : ByteArray := prog_3_method_5_code
abbrev ky_K_setPart : MethodName := ⟨"FileTree$Disk", "setPart", "(III)V"⟩
abbrev kw_K_setPart : List Cond := kw ky_K_setPart kc_K_setPart 6 none
theorem ko_K_setPart : ko "FileTree$Disk" ky_K_setPart kc_K_setPart 6 none := ⟨q_101, q_102, q_4, q_103⟩
theorem kh_K_setPart : (ky_K_setPart).cls = "FileTree$Disk" ∧ (ky_K_setPart).cls ≠ "java/lang/invoke/MethodHandle" ∧ (ky_K_setPart).cls ≠ "java/lang/invoke/VarHandle" ∧ (parseMethodDescriptor (ky_K_setPart).desc).map (fun d => d.parameters.length) = some 3 := by decide +kernel
abbrev kc_K_format : ByteArray := prog_3_method_6_code
abbrev ky_K_format : MethodName := ⟨"FileTree$Disk", "format", "()V"⟩
abbrev kw_K_format : List Cond := kw ky_K_format kc_K_format 2 none
theorem ko_K_format : ko "FileTree$Disk" ky_K_format kc_K_format 2 none := ⟨q_82, q_83, q_4, q_84⟩
theorem kh_K_format : (ky_K_format).cls = "FileTree$Disk" ∧ (ky_K_format).cls ≠ "java/lang/invoke/MethodHandle" ∧ (ky_K_format).cls ≠ "java/lang/invoke/VarHandle" ∧ (parseMethodDescriptor (ky_K_format).desc).map (fun d => d.parameters.length) = some 0 := by decide +kernel
abbrev kc_K_freeBlocks : ByteArray := prog_3_method_7_code
abbrev ky_K_freeBlocks : MethodName := ⟨"FileTree$Disk", "freeBlocks", "()I"⟩
abbrev kw_K_freeBlocks : List Cond := kw ky_K_freeBlocks kc_K_freeBlocks 3 (some .int)
theorem ko_K_freeBlocks : ko "FileTree$Disk" ky_K_freeBlocks kc_K_freeBlocks 3 (some .int) := ⟨q_169, q_170, q_4, q_171⟩
theorem kh_K_freeBlocks : (ky_K_freeBlocks).cls = "FileTree$Disk" ∧ (ky_K_freeBlocks).cls ≠ "java/lang/invoke/MethodHandle" ∧ (ky_K_freeBlocks).cls ≠ "java/lang/invoke/VarHandle" ∧ (parseMethodDescriptor (ky_K_freeBlocks).desc).map (fun d => d.parameters.length) = some 0 := by decide +kernel
abbrev kc_K_takeBlock : ByteArray := prog_3_method_8_code
abbrev ky_K_takeBlock : MethodName := ⟨"FileTree$Disk", "takeBlock", "()I"⟩
abbrev kw_K_takeBlock : List Cond := kw ky_K_takeBlock kc_K_takeBlock 3 (some .int)
theorem ko_K_takeBlock : ko "FileTree$Disk" ky_K_takeBlock kc_K_takeBlock 3 (some .int) := ⟨q_180, q_181, q_4, q_182⟩
theorem kh_K_takeBlock : (ky_K_takeBlock).cls = "FileTree$Disk" ∧ (ky_K_takeBlock).cls ≠ "java/lang/invoke/MethodHandle" ∧ (ky_K_takeBlock).cls ≠ "java/lang/invoke/VarHandle" ∧ (parseMethodDescriptor (ky_K_takeBlock).desc).map (fun d => d.parameters.length) = some 0 := by decide +kernel
abbrev kc_K_giveBlock : ByteArray := prog_3_method_9_code
abbrev ky_K_giveBlock : MethodName := ⟨"FileTree$Disk", "giveBlock", "(I)V"⟩
abbrev kw_K_giveBlock : List Cond := kw ky_K_giveBlock kc_K_giveBlock 2 none
theorem ko_K_giveBlock : ko "FileTree$Disk" ky_K_giveBlock kc_K_giveBlock 2 none := ⟨q_347, q_348, q_4, q_349⟩
theorem kh_K_giveBlock : (ky_K_giveBlock).cls = "FileTree$Disk" ∧ (ky_K_giveBlock).cls ≠ "java/lang/invoke/MethodHandle" ∧ (ky_K_giveBlock).cls ≠ "java/lang/invoke/VarHandle" ∧ (parseMethodDescriptor (ky_K_giveBlock).desc).map (fun d => d.parameters.length) = some 1 := by decide +kernel
abbrev kc_K_wipe : ByteArray := prog_3_method_10_code
abbrev ky_K_wipe : MethodName := ⟨"FileTree$Disk", "wipe", "(II)V"⟩
abbrev kw_K_wipe : List Cond := kw ky_K_wipe kc_K_wipe 4 none
theorem ko_K_wipe : ko "FileTree$Disk" ky_K_wipe kc_K_wipe 4 none := ⟨q_184, q_185, q_4, q_186⟩
theorem kh_K_wipe : (ky_K_wipe).cls = "FileTree$Disk" ∧ (ky_K_wipe).cls ≠ "java/lang/invoke/MethodHandle" ∧ (ky_K_wipe).cls ≠ "java/lang/invoke/VarHandle" ∧ (parseMethodDescriptor (ky_K_wipe).desc).map (fun d => d.parameters.length) = some 2 := by decide +kernel
abbrev kc_K_mark : ByteArray := prog_3_method_11_code
abbrev ky_K_mark : MethodName := ⟨"FileTree$Disk", "mark", "(IZ)V"⟩
abbrev kw_K_mark : List Cond := kw ky_K_mark kc_K_mark 6 none
theorem ko_K_mark : ko "FileTree$Disk" ky_K_mark kc_K_mark 6 none := ⟨q_93, qs_0, q_4, q_94⟩
theorem kh_K_mark : (ky_K_mark).cls = "FileTree$Disk" ∧ (ky_K_mark).cls ≠ "java/lang/invoke/MethodHandle" ∧ (ky_K_mark).cls ≠ "java/lang/invoke/VarHandle" ∧ (parseMethodDescriptor (ky_K_mark).desc).map (fun d => d.parameters.length) = some 2 := by decide +kernel
abbrev kc_I_init : ByteArray := prog_4_method_1_code
abbrev ky_I_init : MethodName := ⟨"FileTree$Inodes", "<init>", "()V"⟩
abbrev kw_I_init : List Cond := kw ky_I_init kc_I_init 1 none
abbrev kc_I_isInode : ByteArray := prog_4_method_2_code
abbrev ky_I_isInode : MethodName := ⟨"FileTree$Inodes", "isInode", "(I)Z"⟩
abbrev kw_I_isInode : List Cond := kw ky_I_isInode kc_I_isInode 2 (some .boolean)
theorem ko_I_isInode : ko "FileTree$Inodes" ky_I_isInode kc_I_isInode 2 (some .boolean) := ⟨q_109, q_110, q_3, q_111⟩
theorem kh_I_isInode : (ky_I_isInode).cls = "FileTree$Inodes" ∧ (ky_I_isInode).cls ≠ "java/lang/invoke/MethodHandle" ∧ (ky_I_isInode).cls ≠ "java/lang/invoke/VarHandle" ∧ (parseMethodDescriptor (ky_I_isInode).desc).map (fun d => d.parameters.length) = some 1 := by decide +kernel
abbrev kc_I_inUse : ByteArray := prog_4_method_3_code
abbrev ky_I_inUse : MethodName := ⟨"FileTree$Inodes", "inUse", "(I)Z"⟩
abbrev kw_I_inUse : List Cond := kw ky_I_inUse kc_I_inUse 2 (some .boolean)
theorem ko_I_inUse : ko "FileTree$Inodes" ky_I_inUse kc_I_inUse 2 (some .boolean) := ⟨q_241, q_242, q_3, q_243⟩
theorem kh_I_inUse : (ky_I_inUse).cls = "FileTree$Inodes" ∧ (ky_I_inUse).cls ≠ "java/lang/invoke/MethodHandle" ∧ (ky_I_inUse).cls ≠ "java/lang/invoke/VarHandle" ∧ (parseMethodDescriptor (ky_I_inUse).desc).map (fun d => d.parameters.length) = some 1 := by decide +kernel
abbrev kc_I_kindOf : ByteArray := prog_4_method_4_code
abbrev ky_I_kindOf : MethodName := ⟨"FileTree$Inodes", "kindOf", "(I)I"⟩
abbrev kw_I_kindOf : List Cond := kw ky_I_kindOf kc_I_kindOf 2 (some .int)
theorem ko_I_kindOf : ko "FileTree$Inodes" ky_I_kindOf kc_I_kindOf 2 (some .int) := ⟨q_138, q_139, q_3, q_140⟩
theorem kh_I_kindOf : (ky_I_kindOf).cls = "FileTree$Inodes" ∧ (ky_I_kindOf).cls ≠ "java/lang/invoke/MethodHandle" ∧ (ky_I_kindOf).cls ≠ "java/lang/invoke/VarHandle" ∧ (parseMethodDescriptor (ky_I_kindOf).desc).map (fun d => d.parameters.length) = some 1 := by decide +kernel
abbrev kc_I_majorOf : ByteArray := prog_4_method_5_code
abbrev ky_I_majorOf : MethodName := ⟨"FileTree$Inodes", "majorOf", "(I)I"⟩
abbrev kw_I_majorOf : List Cond := kw ky_I_majorOf kc_I_majorOf 2 (some .int)
theorem ko_I_majorOf : ko "FileTree$Inodes" ky_I_majorOf kc_I_majorOf 2 (some .int) := ⟨q_405, q_406, q_3, q_407⟩
theorem kh_I_majorOf : (ky_I_majorOf).cls = "FileTree$Inodes" ∧ (ky_I_majorOf).cls ≠ "java/lang/invoke/MethodHandle" ∧ (ky_I_majorOf).cls ≠ "java/lang/invoke/VarHandle" ∧ (parseMethodDescriptor (ky_I_majorOf).desc).map (fun d => d.parameters.length) = some 1 := by decide +kernel
abbrev kc_I_minorOf : ByteArray := prog_4_method_6_code
abbrev ky_I_minorOf : MethodName := ⟨"FileTree$Inodes", "minorOf", "(I)I"⟩
abbrev kw_I_minorOf : List Cond := kw ky_I_minorOf kc_I_minorOf 2 (some .int)
theorem ko_I_minorOf : ko "FileTree$Inodes" ky_I_minorOf kc_I_minorOf 2 (some .int) := ⟨q_409, q_410, q_3, q_411⟩
theorem kh_I_minorOf : (ky_I_minorOf).cls = "FileTree$Inodes" ∧ (ky_I_minorOf).cls ≠ "java/lang/invoke/MethodHandle" ∧ (ky_I_minorOf).cls ≠ "java/lang/invoke/VarHandle" ∧ (parseMethodDescriptor (ky_I_minorOf).desc).map (fun d => d.parameters.length) = some 1 := by decide +kernel
abbrev kc_I_linksOf : ByteArray := prog_4_method_7_code
abbrev ky_I_linksOf : MethodName := ⟨"FileTree$Inodes", "linksOf", "(I)I"⟩
abbrev kw_I_linksOf : List Cond := kw ky_I_linksOf kc_I_linksOf 2 (some .int)
theorem ko_I_linksOf : ko "FileTree$Inodes" ky_I_linksOf kc_I_linksOf 2 (some .int) := ⟨q_204, q_205, q_3, q_206⟩
theorem kh_I_linksOf : (ky_I_linksOf).cls = "FileTree$Inodes" ∧ (ky_I_linksOf).cls ≠ "java/lang/invoke/MethodHandle" ∧ (ky_I_linksOf).cls ≠ "java/lang/invoke/VarHandle" ∧ (parseMethodDescriptor (ky_I_linksOf).desc).map (fun d => d.parameters.length) = some 1 := by decide +kernel
abbrev kc_I_sizeOf : ByteArray := prog_4_method_8_code
abbrev ky_I_sizeOf : MethodName := ⟨"FileTree$Inodes", "sizeOf", "(I)I"⟩
abbrev kw_I_sizeOf : List Cond := kw ky_I_sizeOf kc_I_sizeOf 2 (some .int)
theorem ko_I_sizeOf : ko "FileTree$Inodes" ky_I_sizeOf kc_I_sizeOf 2 (some .int) := ⟨q_143, q_144, q_3, q_145⟩
theorem kh_I_sizeOf : (ky_I_sizeOf).cls = "FileTree$Inodes" ∧ (ky_I_sizeOf).cls ≠ "java/lang/invoke/MethodHandle" ∧ (ky_I_sizeOf).cls ≠ "java/lang/invoke/VarHandle" ∧ (parseMethodDescriptor (ky_I_sizeOf).desc).map (fun d => d.parameters.length) = some 1 := by decide +kernel
abbrev kc_I_heldOf : ByteArray := prog_4_method_9_code
abbrev ky_I_heldOf : MethodName := ⟨"FileTree$Inodes", "heldOf", "(I)I"⟩
abbrev kw_I_heldOf : List Cond := kw ky_I_heldOf kc_I_heldOf 2 (some .int)
theorem ko_I_heldOf : ko "FileTree$Inodes" ky_I_heldOf kc_I_heldOf 2 (some .int) := ⟨q_339, q_340, q_3, q_341⟩
theorem kh_I_heldOf : (ky_I_heldOf).cls = "FileTree$Inodes" ∧ (ky_I_heldOf).cls ≠ "java/lang/invoke/MethodHandle" ∧ (ky_I_heldOf).cls ≠ "java/lang/invoke/VarHandle" ∧ (parseMethodDescriptor (ky_I_heldOf).desc).map (fun d => d.parameters.length) = some 1 := by decide +kernel
abbrev kc_I_addLinks : ByteArray := prog_4_method_10_code
abbrev ky_I_addLinks : MethodName := ⟨"FileTree$Inodes", "addLinks", "(II)V"⟩
abbrev kw_I_addLinks : List Cond := kw ky_I_addLinks kc_I_addLinks 3 none
theorem ko_I_addLinks : ko "FileTree$Inodes" ky_I_addLinks kc_I_addLinks 3 none := ⟨q_200, q_201, q_3, q_202⟩
theorem kh_I_addLinks : (ky_I_addLinks).cls = "FileTree$Inodes" ∧ (ky_I_addLinks).cls ≠ "java/lang/invoke/MethodHandle" ∧ (ky_I_addLinks).cls ≠ "java/lang/invoke/VarHandle" ∧ (parseMethodDescriptor (ky_I_addLinks).desc).map (fun d => d.parameters.length) = some 2 := by decide +kernel
abbrev kc_I_setSize : ByteArray := prog_4_method_11_code
abbrev ky_I_setSize : MethodName := ⟨"FileTree$Inodes", "setSize", "(II)V"⟩
abbrev kw_I_setSize : List Cond := kw ky_I_setSize kc_I_setSize 3 none
theorem ko_I_setSize : ko "FileTree$Inodes" ky_I_setSize kc_I_setSize 3 none := ⟨q_189, q_190, q_3, q_191⟩
theorem kh_I_setSize : (ky_I_setSize).cls = "FileTree$Inodes" ∧ (ky_I_setSize).cls ≠ "java/lang/invoke/MethodHandle" ∧ (ky_I_setSize).cls ≠ "java/lang/invoke/VarHandle" ∧ (parseMethodDescriptor (ky_I_setSize).desc).map (fun d => d.parameters.length) = some 2 := by decide +kernel
abbrev kc_I_addHeld : ByteArray := prog_4_method_12_code
abbrev ky_I_addHeld : MethodName := ⟨"FileTree$Inodes", "addHeld", "(II)V"⟩
abbrev kw_I_addHeld : List Cond := kw ky_I_addHeld kc_I_addHeld 3 none
theorem ko_I_addHeld : ko "FileTree$Inodes" ky_I_addHeld kc_I_addHeld 3 none := ⟨q_356, q_357, q_3, q_358⟩
theorem kh_I_addHeld : (ky_I_addHeld).cls = "FileTree$Inodes" ∧ (ky_I_addHeld).cls ≠ "java/lang/invoke/MethodHandle" ∧ (ky_I_addHeld).cls ≠ "java/lang/invoke/VarHandle" ∧ (parseMethodDescriptor (ky_I_addHeld).desc).map (fun d => d.parameters.length) = some 2 := by decide +kernel
abbrev kc_I_leastFree : ByteArray := prog_4_method_13_code
abbrev ky_I_leastFree : MethodName := ⟨"FileTree$Inodes", "leastFree", "()I"⟩
abbrev kw_I_leastFree : List Cond := kw ky_I_leastFree kc_I_leastFree 2 (some .int)
theorem ko_I_leastFree : ko "FileTree$Inodes" ky_I_leastFree kc_I_leastFree 2 (some .int) := ⟨q_289, q_290, q_3, q_291⟩
theorem kh_I_leastFree : (ky_I_leastFree).cls = "FileTree$Inodes" ∧ (ky_I_leastFree).cls ≠ "java/lang/invoke/MethodHandle" ∧ (ky_I_leastFree).cls ≠ "java/lang/invoke/VarHandle" ∧ (parseMethodDescriptor (ky_I_leastFree).desc).map (fun d => d.parameters.length) = some 0 := by decide +kernel
abbrev kc_I_make : ByteArray := prog_4_method_14_code
abbrev ky_I_make : MethodName := ⟨"FileTree$Inodes", "make", "(IIII)V"⟩
abbrev kw_I_make : List Cond := kw ky_I_make kc_I_make 6 none
theorem ko_I_make : ko "FileTree$Inodes" ky_I_make kc_I_make 6 none := ⟨q_105, q_106, q_3, q_107⟩
theorem kh_I_make : (ky_I_make).cls = "FileTree$Inodes" ∧ (ky_I_make).cls ≠ "java/lang/invoke/MethodHandle" ∧ (ky_I_make).cls ≠ "java/lang/invoke/VarHandle" ∧ (parseMethodDescriptor (ky_I_make).desc).map (fun d => d.parameters.length) = some 4 := by decide +kernel
abbrev kc_I_freeIfLeft : ByteArray := prog_4_method_15_code
abbrev ky_I_freeIfLeft : MethodName := ⟨"FileTree$Inodes", "freeIfLeft", "(I)Z"⟩
abbrev kw_I_freeIfLeft : List Cond := kw ky_I_freeIfLeft kc_I_freeIfLeft 2 (some .boolean)
theorem ko_I_freeIfLeft : ko "FileTree$Inodes" ky_I_freeIfLeft kc_I_freeIfLeft 2 (some .boolean) := ⟨q_335, q_336, q_3, q_337⟩
theorem kh_I_freeIfLeft : (ky_I_freeIfLeft).cls = "FileTree$Inodes" ∧ (ky_I_freeIfLeft).cls ≠ "java/lang/invoke/MethodHandle" ∧ (ky_I_freeIfLeft).cls ≠ "java/lang/invoke/VarHandle" ∧ (parseMethodDescriptor (ky_I_freeIfLeft).desc).map (fun d => d.parameters.length) = some 1 := by decide +kernel
abbrev kc_I_dropBlocks : ByteArray := prog_4_method_16_code
abbrev ky_I_dropBlocks : MethodName := ⟨"FileTree$Inodes", "dropBlocks", "(I)V"⟩
abbrev kw_I_dropBlocks : List Cond := kw ky_I_dropBlocks kc_I_dropBlocks 3 none
theorem ko_I_dropBlocks : ko "FileTree$Inodes" ky_I_dropBlocks kc_I_dropBlocks 3 none := ⟨q_343, q_344, q_3, q_345⟩
theorem kh_I_dropBlocks : (ky_I_dropBlocks).cls = "FileTree$Inodes" ∧ (ky_I_dropBlocks).cls ≠ "java/lang/invoke/MethodHandle" ∧ (ky_I_dropBlocks).cls ≠ "java/lang/invoke/VarHandle" ∧ (parseMethodDescriptor (ky_I_dropBlocks).desc).map (fun d => d.parameters.length) = some 1 := by decide +kernel
abbrev kc_I_blocksToAdd : ByteArray := prog_4_method_17_code
abbrev ky_I_blocksToAdd : MethodName := ⟨"FileTree$Inodes", "blocksToAdd", "(I)I"⟩
abbrev kw_I_blocksToAdd : List Cond := kw ky_I_blocksToAdd kc_I_blocksToAdd 2 (some .int)
theorem ko_I_blocksToAdd : ko "FileTree$Inodes" ky_I_blocksToAdd kc_I_blocksToAdd 2 (some .int) := ⟨q_165, q_166, q_3, q_167⟩
theorem kh_I_blocksToAdd : (ky_I_blocksToAdd).cls = "FileTree$Inodes" ∧ (ky_I_blocksToAdd).cls ≠ "java/lang/invoke/MethodHandle" ∧ (ky_I_blocksToAdd).cls ≠ "java/lang/invoke/VarHandle" ∧ (parseMethodDescriptor (ky_I_blocksToAdd).desc).map (fun d => d.parameters.length) = some 1 := by decide +kernel
abbrev kc_I_addBlock : ByteArray := prog_4_method_18_code
abbrev ky_I_addBlock : MethodName := ⟨"FileTree$Inodes", "addBlock", "(II)Z"⟩
abbrev kw_I_addBlock : List Cond := kw ky_I_addBlock kc_I_addBlock 3 (some .boolean)
theorem ko_I_addBlock : ko "FileTree$Inodes" ky_I_addBlock kc_I_addBlock 3 (some .boolean) := ⟨q_161, q_162, q_3, q_163⟩
theorem kh_I_addBlock : (ky_I_addBlock).cls = "FileTree$Inodes" ∧ (ky_I_addBlock).cls ≠ "java/lang/invoke/MethodHandle" ∧ (ky_I_addBlock).cls ≠ "java/lang/invoke/VarHandle" ∧ (parseMethodDescriptor (ky_I_addBlock).desc).map (fun d => d.parameters.length) = some 2 := by decide +kernel
abbrev kc_I_placeOfByte : ByteArray := prog_4_method_19_code
abbrev ky_I_placeOfByte : MethodName := ⟨"FileTree$Inodes", "placeOfByte", "(II)I"⟩
abbrev kw_I_placeOfByte : List Cond := kw ky_I_placeOfByte kc_I_placeOfByte 4 (some .int)
theorem ko_I_placeOfByte : ko "FileTree$Inodes" ky_I_placeOfByte kc_I_placeOfByte 4 (some .int) := ⟨q_151, q_152, q_3, q_153⟩
theorem kh_I_placeOfByte : (ky_I_placeOfByte).cls = "FileTree$Inodes" ∧ (ky_I_placeOfByte).cls ≠ "java/lang/invoke/MethodHandle" ∧ (ky_I_placeOfByte).cls ≠ "java/lang/invoke/VarHandle" ∧ (parseMethodDescriptor (ky_I_placeOfByte).desc).map (fun d => d.parameters.length) = some 2 := by decide +kernel
abbrev kc_I_bring : ByteArray := prog_4_method_20_code
abbrev ky_I_bring : MethodName := ⟨"FileTree$Inodes", "bring", "(III[B)I"⟩
abbrev kw_I_bring : List Cond := kw ky_I_bring kc_I_bring 11 (some .int)
theorem ko_I_bring : ko "FileTree$Inodes" ky_I_bring kc_I_bring 11 (some .int) := ⟨q_373, q_374, q_3, q_375⟩
theorem kh_I_bring : (ky_I_bring).cls = "FileTree$Inodes" ∧ (ky_I_bring).cls ≠ "java/lang/invoke/MethodHandle" ∧ (ky_I_bring).cls ≠ "java/lang/invoke/VarHandle" ∧ (parseMethodDescriptor (ky_I_bring).desc).map (fun d => d.parameters.length) = some 4 := by decide +kernel
abbrev kc_I_put : ByteArray := prog_4_method_21_code
abbrev ky_I_put : MethodName := ⟨"FileTree$Inodes", "put", "(III[B)I"⟩
abbrev kw_I_put : List Cond := kw ky_I_put kc_I_put 11 (some .int)
theorem ko_I_put : ko "FileTree$Inodes" ky_I_put kc_I_put 11 (some .int) := ⟨q_387, q_388, q_3, q_389⟩
theorem kh_I_put : (ky_I_put).cls = "FileTree$Inodes" ∧ (ky_I_put).cls ≠ "java/lang/invoke/MethodHandle" ∧ (ky_I_put).cls ≠ "java/lang/invoke/VarHandle" ∧ (parseMethodDescriptor (ky_I_put).desc).map (fun d => d.parameters.length) = some 4 := by decide +kernel
abbrev kc_I_placeOf : ByteArray := prog_4_method_22_code
abbrev ky_I_placeOf : MethodName := ⟨"FileTree$Inodes", "placeOf", "(I)I"⟩
abbrev kw_I_placeOf : List Cond := kw ky_I_placeOf kc_I_placeOf 2 (some .int)
theorem ko_I_placeOf : ko "FileTree$Inodes" ky_I_placeOf kc_I_placeOf 2 (some .int) := ⟨q_114, qs_1, q_3, q_115⟩
theorem kh_I_placeOf : (ky_I_placeOf).cls = "FileTree$Inodes" ∧ (ky_I_placeOf).cls ≠ "java/lang/invoke/MethodHandle" ∧ (ky_I_placeOf).cls ≠ "java/lang/invoke/VarHandle" ∧ (parseMethodDescriptor (ky_I_placeOf).desc).map (fun d => d.parameters.length) = some 1 := by decide +kernel
abbrev kc_I_slotOf : ByteArray := prog_4_method_23_code
abbrev ky_I_slotOf : MethodName := ⟨"FileTree$Inodes", "slotOf", "(II)I"⟩
abbrev kw_I_slotOf : List Cond := kw ky_I_slotOf kc_I_slotOf 4 (some .int)
theorem ko_I_slotOf : ko "FileTree$Inodes" ky_I_slotOf kc_I_slotOf 4 (some .int) := ⟨q_156, qs_4, q_3, q_157⟩
theorem kh_I_slotOf : (ky_I_slotOf).cls = "FileTree$Inodes" ∧ (ky_I_slotOf).cls ≠ "java/lang/invoke/MethodHandle" ∧ (ky_I_slotOf).cls ≠ "java/lang/invoke/VarHandle" ∧ (parseMethodDescriptor (ky_I_slotOf).desc).map (fun d => d.parameters.length) = some 2 := by decide +kernel
abbrev kc_X_init : ByteArray := prog_5_method_1_code
abbrev ky_X_init : MethodName := ⟨"FileTree$Text", "<init>", "()V"⟩
abbrev kw_X_init : List Cond := kw ky_X_init kc_X_init 1 none
abbrev kc_X_append : ByteArray := prog_5_method_2_code
abbrev ky_X_append : MethodName := ⟨"FileTree$Text", "append", "(J)Z"⟩
abbrev kw_X_append : List Cond := kw ky_X_append kc_X_append 6 (some .boolean)
theorem ko_X_append : ko "FileTree$Text" ky_X_append kc_X_append 6 (some .boolean) := ⟨q_228, q_229, q_5, q_230⟩
theorem kh_X_append : (ky_X_append).cls = "FileTree$Text" ∧ (ky_X_append).cls ≠ "java/lang/invoke/MethodHandle" ∧ (ky_X_append).cls ≠ "java/lang/invoke/VarHandle" ∧ (parseMethodDescriptor (ky_X_append).desc).map (fun d => d.parameters.length) = some 1 := by decide +kernel
abbrev kc_X_empty : ByteArray := prog_5_method_3_code
abbrev ky_X_empty : MethodName := ⟨"FileTree$Text", "empty", "()V"⟩
abbrev kw_X_empty : List Cond := kw ky_X_empty kc_X_empty 1 none
theorem ko_X_empty : ko "FileTree$Text" ky_X_empty kc_X_empty 1 none := ⟨q_273, q_274, q_5, q_275⟩
theorem kh_X_empty : (ky_X_empty).cls = "FileTree$Text" ∧ (ky_X_empty).cls ≠ "java/lang/invoke/MethodHandle" ∧ (ky_X_empty).cls ≠ "java/lang/invoke/VarHandle" ∧ (parseMethodDescriptor (ky_X_empty).desc).map (fun d => d.parameters.length) = some 0 := by decide +kernel
abbrev kc_X_byteAt : ByteArray := prog_5_method_4_code
abbrev ky_X_byteAt : MethodName := ⟨"FileTree$Text", "byteAt", "(I)I"⟩
abbrev kw_X_byteAt : List Cond := kw ky_X_byteAt kc_X_byteAt 2 (some .int)
theorem ko_X_byteAt : ko "FileTree$Text" ky_X_byteAt kc_X_byteAt 2 (some .int) := ⟨q_250, q_251, q_5, q_252⟩
theorem kh_X_byteAt : (ky_X_byteAt).cls = "FileTree$Text" ∧ (ky_X_byteAt).cls ≠ "java/lang/invoke/MethodHandle" ∧ (ky_X_byteAt).cls ≠ "java/lang/invoke/VarHandle" ∧ (parseMethodDescriptor (ky_X_byteAt).desc).map (fun d => d.parameters.length) = some 1 := by decide +kernel
abbrev kc_X_firstBlank : ByteArray := prog_5_method_5_code
abbrev ky_X_firstBlank : MethodName := ⟨"FileTree$Text", "firstBlank", "()I"⟩
abbrev kw_X_firstBlank : List Cond := kw ky_X_firstBlank kc_X_firstBlank 2 (some .int)
theorem ko_X_firstBlank : ko "FileTree$Text" ky_X_firstBlank kc_X_firstBlank 2 (some .int) := ⟨q_307, q_308, q_5, q_309⟩
theorem kh_X_firstBlank : (ky_X_firstBlank).cls = "FileTree$Text" ∧ (ky_X_firstBlank).cls ≠ "java/lang/invoke/MethodHandle" ∧ (ky_X_firstBlank).cls ≠ "java/lang/invoke/VarHandle" ∧ (parseMethodDescriptor (ky_X_firstBlank).desc).map (fun d => d.parameters.length) = some 0 := by decide +kernel
abbrev kc_X_isPath : ByteArray := prog_5_method_6_code
abbrev ky_X_isPath : MethodName := ⟨"FileTree$Text", "isPath", "(II)Z"⟩
abbrev kw_X_isPath : List Cond := kw ky_X_isPath kc_X_isPath 4 (some .boolean)
theorem ko_X_isPath : ko "FileTree$Text" ky_X_isPath kc_X_isPath 4 (some .boolean) := ⟨q_246, q_247, q_5, q_248⟩
theorem kh_X_isPath : (ky_X_isPath).cls = "FileTree$Text" ∧ (ky_X_isPath).cls ≠ "java/lang/invoke/MethodHandle" ∧ (ky_X_isPath).cls ≠ "java/lang/invoke/VarHandle" ∧ (parseMethodDescriptor (ky_X_isPath).desc).map (fun d => d.parameters.length) = some 2 := by decide +kernel
abbrev kc_X_nameBegins : ByteArray := prog_5_method_7_code
abbrev ky_X_nameBegins : MethodName := ⟨"FileTree$Text", "nameBegins", "(II)Z"⟩
abbrev kw_X_nameBegins : List Cond := kw ky_X_nameBegins kc_X_nameBegins 3 (some .boolean)
theorem ko_X_nameBegins : ko "FileTree$Text" ky_X_nameBegins kc_X_nameBegins 3 (some .boolean) := ⟨q_255, q_256, q_5, q_257⟩
theorem kh_X_nameBegins : (ky_X_nameBegins).cls = "FileTree$Text" ∧ (ky_X_nameBegins).cls ≠ "java/lang/invoke/MethodHandle" ∧ (ky_X_nameBegins).cls ≠ "java/lang/invoke/VarHandle" ∧ (parseMethodDescriptor (ky_X_nameBegins).desc).map (fun d => d.parameters.length) = some 2 := by decide +kernel
abbrev kc_X_copyName : ByteArray := prog_5_method_8_code
abbrev ky_X_copyName : MethodName := ⟨"FileTree$Text", "copyName", "([BII)V"⟩
abbrev kw_X_copyName : List Cond := kw ky_X_copyName kc_X_copyName 6 none
theorem ko_X_copyName : ko "FileTree$Text" ky_X_copyName kc_X_copyName 6 none := ⟨q_259, q_260, q_5, q_261⟩
theorem kh_X_copyName : (ky_X_copyName).cls = "FileTree$Text" ∧ (ky_X_copyName).cls ≠ "java/lang/invoke/MethodHandle" ∧ (ky_X_copyName).cls ≠ "java/lang/invoke/VarHandle" ∧ (parseMethodDescriptor (ky_X_copyName).desc).map (fun d => d.parameters.length) = some 3 := by decide +kernel
abbrev kc_X_cutLastName : ByteArray := prog_5_method_9_code
abbrev ky_X_cutLastName : MethodName := ⟨"FileTree$Text", "cutLastName", "(II)I"⟩
abbrev kw_X_cutLastName : List Cond := kw ky_X_cutLastName kc_X_cutLastName 5 (some .int)
theorem ko_X_cutLastName : ko "FileTree$Text" ky_X_cutLastName kc_X_cutLastName 5 (some .int) := ⟨q_281, q_282, q_5, q_283⟩
theorem kh_X_cutLastName : (ky_X_cutLastName).cls = "FileTree$Text" ∧ (ky_X_cutLastName).cls ≠ "java/lang/invoke/MethodHandle" ∧ (ky_X_cutLastName).cls ≠ "java/lang/invoke/VarHandle" ∧ (parseMethodDescriptor (ky_X_cutLastName).desc).map (fun d => d.parameters.length) = some 2 := by decide +kernel
abbrev kc_X_lastIsDots : ByteArray := prog_5_method_10_code
abbrev ky_X_lastIsDots : MethodName := ⟨"FileTree$Text", "lastIsDots", "()Z"⟩
abbrev kw_X_lastIsDots : List Cond := kw ky_X_lastIsDots kc_X_lastIsDots 1 (some .boolean)
theorem ko_X_lastIsDots : ko "FileTree$Text" ky_X_lastIsDots kc_X_lastIsDots 1 (some .boolean) := ⟨q_317, q_318, q_5, q_319⟩
theorem kh_X_lastIsDots : (ky_X_lastIsDots).cls = "FileTree$Text" ∧ (ky_X_lastIsDots).cls ≠ "java/lang/invoke/MethodHandle" ∧ (ky_X_lastIsDots).cls ≠ "java/lang/invoke/VarHandle" ∧ (parseMethodDescriptor (ky_X_lastIsDots).desc).map (fun d => d.parameters.length) = some 0 := by decide +kernel
abbrev kc_J_bitCount : ByteArray := prog_8_method_49_code
abbrev ky_J_bitCount : MethodName := ⟨"java/lang/Integer", "bitCount", "(I)I"⟩
abbrev kw_J_bitCount : List Cond := kw ky_J_bitCount kc_J_bitCount 1 (some .int)
theorem ko_J_bitCount : kos ky_J_bitCount kc_J_bitCount 1 (some .int) := ⟨q_174, q_6, q_175⟩
theorem kh_J_bitCount : (ky_J_bitCount).cls ≠ "java/lang/invoke/MethodHandle" ∧ (ky_J_bitCount).cls ≠ "java/lang/invoke/VarHandle" ∧ (parseMethodDescriptor (ky_J_bitCount).desc).map (fun d => d.parameters.length) = some 1 := by decide +kernel
theorem qm_min_s : Cond.static Lib.Math.min.name ∈ lw_g := q_370
theorem qm_min_c : Cond.code Lib.Math.min.name Lib.Math.min.code 2 (some .int) ∈ lw_g := q_371
theorem qm_max_s : Cond.static Lib.Math.max.name ∈ lw_g := q_378
theorem qm_max_c : Cond.code Lib.Math.max.name Lib.Math.max.code 2 (some .int) ∈ lw_g := q_379
theorem qm_i : Cond.initialized "java/lang/Math" ∈ lw_g := q_8
end
section
/-! OUR BASE: worlds with one state value; partial functions of states; calls within one world -/
abbrev fb_S : Type := Nat → Nat → Int32
abbrev fb_Z : Type := (Nat → Prop) → State → Heap → Prop
abbrev fb_Y : Type := List (ClassId × FieldType)
theorem fb_ob {α β : Type} {x : Option α} {f : α → Option β} {o : β} (h : x.bind f = some o) : ∃ a, x = some a ∧ f a = some o := by
  cases x with
  | none => cases h
  | some a => exact ⟨a, rfl, h⟩
def fb_b (x : Int32) : Int32 := x.toInt8.toInt32
def fb_us (x y : Int32) : Int32 := (x.toUInt32 >>> (y.toUInt32 &&& Int32.toUInt32 31)).toInt32
def fb_lus (x : Int64) (y : Int32) : Int64 := (x.toUInt64 >>> (y.toInt64.toUInt64 &&& Int64.toUInt64 63)).toInt64
def fb_lsl (x : Int64) (y : Int32) : Int64 := x <<< (y.toInt64 &&& 63)
def fb_ld (f : Nat → Int32) (n : Nat) (i : Int32) : Option Int32 := if i < 0 ∨ n ≤ i.toNatClampNeg then none else some (f i.toNatClampNeg)
def fb_st (st : fb_S) (k n : Nat) (i x : Int32) : Option fb_S := if i < 0 ∨ n ≤ i.toNatClampNeg then none else some (va_up st k (upd (st k) i.toNatClampNeg x))
def fb_pf (st : fb_S) (k : Nat) (x : Int32) : Option fb_S := some (va_up st k (upd (st k) 0 x))
def fb_rz (v : Int32) (st : fb_S) : Option (Int32 × fb_S) := if v = 0 ∨ v = 1 then some (v, st) else none
/-- what a walk keeps of its method and its place -/
def fb_C (p : Program) (s : State) (m : MethodId) (args : Array Value) (meth : Method) (c : Code) (cc : ByteArray) (ret : Option FieldType) (nL : Nat) (own : String) (D : va_G) (cl : List vw_C) (tys : fb_Y) (A : Nat → Prop) (Z : fb_Z) : Prop :=
  p.tables.exec = Jvm.exec ∧ c.code = cc ∧ meth.sig.returnType = ret ∧ c.maxLocals = nL ∧ s.vm.findClass own = some m.cls ∧ (∀ w ∈ lw_g, w.before args s = true) ∧ va_K D cl tys s ∧ (∀ q, s.heap.size ≤ q → A q) ∧ meth.locks = false ∧ Z A s s.heap
def fb_mv (Z : fb_Z) : Prop := ∀ (A B : Nat → Prop) (u U : State) (H H1 : Heap), u.WarmedH U.vm → (∀ a : Nat, a < H.size → ¬ A a → H1[a]? = H[a]?) → (∀ q, B q → A q) → Z A u H → Z B U H1
def fb_pre (D : va_G) (cl : List vw_C) (tys : fb_Y) (wx : fb_S → va_W) (Z : fb_Z) (st : fb_S) (sz : Nat) (U : State) : Prop := U.heap.size = sz ∧ va_P D cl (wx st) U.heap ∧ va_K D cl tys U ∧ va_D (fun _ => True) (wx st) ∧ Z (va_A (wx st) sz) U U.heap
def fb_Q (D : va_G) (cl : List vw_C) (tys : fb_Y) (wx : fb_S → va_W) (A : Nat → Prop) (v : Option Value) (u : fb_S) : Array Value → State → Outcome → State → Prop := fun _ s0 oc t => (oc = .returned v ∧ va_P D cl (wx u) t.heap ∧ va_K D cl tys t ∧ va_D A (wx u)) ∧ va_F A s0 t
def fb_M (l : Launch) (y : MethodName) (ws : List Cond) (rm : Room) (D : va_G) (cl : List vw_C) (tys : fb_Y) (wx : fb_S → va_W) (Z : fb_Z) (av : List Value) (v : Option Value) (st u : fb_S) : Prop := ∀ sz : Nat, Met l y ws rm (va_Pc av (fb_pre D cl tys wx Z st sz)) (fb_Q D cl tys wx (va_A (wx st) sz) v u) 0 0 (va_A (wx st) sz)
/-- from a place in a method's code, whatever the heap that holds the state's cells: the method comes to its end -/
def fb_G (p : Program) (l : Launch) (e : Env) (R : Room) (s : State) (m : MethodId) (args : Array Value) (below : List Frame) (meth : Method) (c : Code) (D : va_G) (cl : List vw_C) (tys : fb_Y) (wx : fb_S → va_W) (A : Nat → Prop) (v : Option Value) (u : fb_S) (pc nL : Nat) (loc : List (Nat × Value)) (stk : List Value) (st : fb_S) : Prop :=
  ∀ (H : Heap) (locs : List Loc), va_P D cl (wx st) H → va_D A (wx st) → va_S A s.heap H locs → ∀ ls : Array Slot, lv_has ls nL loc → W p l e R s m args below meth c H locs 0 0 (MQ below (fb_Q D cl tys wx A v u) args s 0 0 A) (F0 m pc ls stk)
def fb_n : Nat := 1000000
def fb_min (x y : Int32) : Int32 := if y < x then y else x
def fb_max (x y : Int32) : Int32 := if x < y then y else x
section FB
variable {p : Program} {l : Launch} {e : Env} {R : Room} {s : State} {m : MethodId} {args : Array Value} {below : List Frame} {meth : Method} {c : Code} {H : Heap} {locs : List Loc} {cells slots : Nat} {Q : State → Prop}
variable {cc : ByteArray} {pc : Nat} {ls : Array Slot} {rest st0 : List Value} {D : va_G} {cl : List vw_C} {A : Nat → Prop} {tys : fb_Y} {wx : fb_S → va_W} {Z : fb_Z} {H0 : Heap} {st u : fb_S}
theorem fb_free (hD : va_D A (wx st)) (hS : va_S A H0 H locs) (hA : ∀ q, H0.size ≤ q → A q) : ∀ q, va_A (wx st) H.size q → A q := by
  intro q h
  rcases h with ⟨k, e, h⟩ | h
  · exact hD.2 k (q, e) h
  · exact hA q (Nat.le_trans hS.1 h)
theorem fb_back {v : Option Value} {a : Array Value} (hr : va_Run p l e R s m args below meth c H locs cells slots 0 0 (F0 m pc ls st0) rest (fb_Q D cl tys wx (va_A (wx st) H.size) v u a) (va_A (wx st) H.size)) (hD : va_D A (wx st)) (hS : va_S A H0 H locs) (hA : ∀ q, H0.size ≤ q → A q)
    (kk : ∀ (H1 : Heap) (locs1 : List Loc), va_P D cl (wx u) H1 → va_D A (wx u) → va_S A H0 H1 locs1 → W p l e R s m args below meth c H1 locs1 cells slots Q (F0 m (pc + 3) ls (v.toList ++ rest))) : W p l e R s m args below meth c H locs cells slots Q (F0 m pc ls st0) := by
  have hF := fb_free hD hS hA
  intro T hT X
  obtain ⟨v', st₀, t, T', L, h0, X', hL, e1, e2, ⟨⟨hv, hp, hk, hd⟩, hz, hkk⟩, st⟩ := hr T hT X
  cases hv
  rw [h0] at hz hkk
  obtain ⟨t2, a1, b1⟩ := kk T'.heap (locs ++ L) (by rw [e1]; exact hp) (hd.weaken (fun _ _ _ h => hF _ h))
    ⟨Nat.le_trans hS.1 (by rw [e1]; exact hz), fun q h1 h2 => by rw [e1, hkk q (Nat.lt_of_lt_of_le h1 hS.1) (fun z => h2 (hF q z))]; exact hS.2.1 q h1 h2, fun q hq => by
      rcases List.mem_append.mp hq with h | h
      · exact hS.2.2 q h
      · exact hF _ (hL q h)⟩ T' rfl X'
  exact ⟨t2, st t2 a1, b1⟩
theorem fb_blind (zm : fb_mv Z) {av : List Value} {sz : Nat} : FrameBlind (va_Pc av (fb_pre D cl tys wx Z st sz)) := by
  intro a U g mk q
  obtain ⟨q0, q1, qP, qK, qD, qZ⟩ := q
  exact ⟨q0, q1, qP, va_K.moved (u := U) (U := U.calling g mk a) (Vm.Alike.refl U.vm) qK, qD, zm _ _ U (U.calling g mk a) U.heap U.heap (State.WarmedH.refl U) (fun _ _ _ => rfl) (fun _ h => h) qZ⟩
theorem fb_preU (zm : fb_mv Z) (hZ : Z A s s.heap) (hK : va_K D cl tys s) (hP : va_P D cl (wx st) H) (hD : va_D A (wx st)) (hS : va_S A s.heap H locs) (hA : ∀ q, s.heap.size ≤ q → A q) {av : List Value} : ∀ U : State, U.heap = H → s.WarmedH U.vm → va_Pc av (fb_pre D cl tys wx Z st H.size) av.toArray U := by
  intro U hU hW
  exact ⟨rfl, by rw [hU], by rw [hU]; exact hP, va_K.moved hW.alike hK, hD.weaken (fun _ _ _ _ => trivial), zm _ _ s U s.heap U.heap hW (fun a h1 h2 => by rw [hU]; exact hS.2.1 a h1 h2) (fb_free hD hS hA) hZ⟩
variable {y : MethodName} {bytes : ByteArray} {maxL nL n index : Nat} {ret : Option FieldType} {ws ws' : List Cond} {rm : Room} {Ts : List Cond} {own C : String} {b : Nat} {As : List Value} {v : Option Value}
theorem fb_callV (S : CallFix p m c cc nL s args Ts own) (zm : fb_mv Z) (hZ : Z A s s.heap) (hK : va_K D cl tys s) (hP : va_P D cl (wx st) H) (hD : va_D A (wx st)) (hS : va_S A s.heap H locs) (hA : ∀ q, s.heap.size ≤ q → A q)
    (hM : fb_M l y ws rm D cl tys wx Z (.ref b :: As) v st u) (cw : CallW R s args own C index y bytes maxL ret ws rm 0 0 n) (ci q0 : Nat) {qc : vw_C} {fs : List Value} (hc : cl[ci]? = some qc) (hq : qc.1 = C) (he : (wx st)[q0]? = some (b, .inr (ci, fs)))
    (hn : As.length = n) (hl : ls.size = nL) (hstack : st0 = As.reverse ++ .ref b :: rest) (hW : (rest.map fun v => v.category).sum ≤ 8) (hdg : decode cc pc = .ok (.invokevirtual index, 3)) (hf : cells ≤ R.cells ∧ slots ≤ R.slots)
    (kk : ∀ (H1 : Heap) (locs1 : List Loc), va_P D cl (wx u) H1 → va_D A (wx u) → va_S A s.heap H1 locs1 → W p l e R s m args below meth c H1 locs1 cells slots Q (F0 m (pc + 3) ls (v.toList ++ rest))) : W p l e R s m args below meth c H locs cells slots Q (F0 m pc ls st0) := by
  subst hq
  exact fb_back (va_runV S (hM H.size) cw ⟨fb_blind zm, va_recv hK hP hc he, fb_preU zm hZ hK hP hD hS hA⟩ rfl hn hl hstack (lv_room hW) hdg hf) hD hS hA kk
theorem fb_callS (S : CallFix p m c cc nL s args Ts own) (zm : fb_mv Z) (hZ : Z A s s.heap) (hK : va_K D cl tys s) (hP : va_P D cl (wx st) H) (hD : va_D A (wx st)) (hS : va_S A s.heap H locs) (hA : ∀ q, s.heap.size ≤ q → A q)
    (hM : fb_M l y ws rm D cl tys wx Z As v st u) (cw : CallB R s args own index y bytes maxL ret ws rm 0 0 n ∧ (Cond.static y).before args s = true)
    (hn : As.length = n) (hl : ls.size = nL) (hstack : st0 = As.reverse ++ rest) (hW : (rest.map fun v => v.category).sum ≤ 8) (hdg : decode cc pc = .ok (.invokestatic index, 3)) (hf : cells ≤ R.cells ∧ slots ≤ R.slots)
    (kk : ∀ (H1 : Heap) (locs1 : List Loc), va_P D cl (wx u) H1 → va_D A (wx u) → va_S A s.heap H1 locs1 → W p l e R s m args below meth c H1 locs1 cells slots Q (F0 m (pc + 3) ls (v.toList ++ rest))) : W p l e R s m args below meth c H locs cells slots Q (F0 m pc ls st0) :=
  fb_back (va_runS S (hM H.size) cw ⟨fb_blind zm, fb_preU zm hZ hK hP hD hS hA⟩ rfl hn hl hstack (lv_room hW) hdg hf) hD hS hA kk
/-- the entry of a method in a world -/
theorem fb_enter {av : List Value} (hy : plainName y.cls = true) (hw : ws = Cond.code y cc maxL ret :: lw_g) (hav : (lg_sl av).length ≤ maxL)
    (body : ∀ (p : Program) (e : Env) (s : State) (m : MethodId) (below : List Frame) (meth : Method) (c : Code) (A : Nat → Prop), fb_C p s m av.toArray meth c cc ret maxL y.cls D cl tys A Z → va_P D cl (wx st) s.heap → va_D A (wx st) → va_S A s.heap s.heap [] → ∀ ls : Array Slot, lv_has ls maxL (lv_args 0 av) → W p l e (headSpec ws rm).room s m av.toArray below meth c s.heap [] 0 0 (MQ below (fb_Q D cl tys wx A v u) av.toArray s 0 0 A) (F0 m 0 ls [])) : fb_M l y ws rm D cl tys wx Z av v st u := by
  intro sz
  refine Met.ofW (cc := cc) (maxL := maxL) (ret := ret) hy hw ?_
  intro p e s m args below meth c s₁ B hml hv
  obtain ⟨rfl, hsz, hP, hK, hD0, hZ⟩ := hv
  subst hsz
  have hl := lv_entry av (n := maxL) hav
  rw [lg_entry_eq]
  exact body p e s m below meth c _ ⟨B.exec, B.bytes, B.returns, hml, findClass_of_methodNamed B.named, fun w h => atoms_spec (ws := ws) B.pre w (by rw [hw]; exact List.mem_cons_of_mem _ h), hK, fun q h => Or.inr h, B.notSynchronized, hZ⟩ hP (hD0.self (sz := s.heap.size)) va_S.rf _ hl
theorem fb_ri {x : Int32} {o : Int32 × fb_S} (hx : p.tables.exec = Jvm.exec) (hb : c.code = cc) (hr : meth.sig.returnType = some .int) (hlocks : meth.locks = false) (hK : va_K D cl tys s) (hP : va_P D cl (wx st) H) (hD : va_D A (wx st)) (hS : va_S A s.heap H locs) (hF : some (x, st) = some o) (hdg : decode cc pc = .ok (.ireturn, 1)) : W p l e R s m args below meth c H locs 0 0 (MQ below (fb_Q D cl tys wx A (some (.int o.1)) o.2) args s 0 0 A) (F0 m pc ls [.int x]) := by
  cases hF
  exact W.iret hx hb hr (fun t ht hW => ⟨⟨rfl, by rw [ht]; exact hP, va_K.moved hW.alike hK, hD⟩, hS.F ht⟩) hS.2.2 hdg hlocks
theorem fb_rzn {x : Int32} (h : x = 0 ∨ x = 1) : narrow .boolean (.int x) = .int x := by
  rcases h with rfl | rfl <;> rfl
theorem fb_rb {x : Int32} {o : Int32 × fb_S} (hx : p.tables.exec = Jvm.exec) (hb : c.code = cc) (hr : meth.sig.returnType = some .boolean) (hlocks : meth.locks = false) (hK : va_K D cl tys s) (hP : va_P D cl (wx st) H) (hD : va_D A (wx st)) (hS : va_S A s.heap H locs) (hF : fb_rz x st = some o) (hdg : decode cc pc = .ok (.ireturn, 1)) : W p l e R s m args below meth c H locs 0 0 (MQ below (fb_Q D cl tys wx A (some (.int o.1)) o.2) args s 0 0 A) (F0 m pc ls [.int x]) := by
  unfold fb_rz at hF
  split at hF
  · rename_i h
    cases hF
    exact W.zret hx hb hr (fb_rzn h) (fun t ht hW => ⟨⟨rfl, by rw [ht]; exact hP, va_K.moved hW.alike hK, hD⟩, hS.F ht⟩) hS.2.2 hdg hlocks
  · cases hF
theorem fb_rv {x : Int32} {o : Int32 × fb_S} (hx : p.tables.exec = Jvm.exec) (hb : c.code = cc) (hr : meth.sig.returnType = none) (hlocks : meth.locks = false) (hK : va_K D cl tys s) (hP : va_P D cl (wx st) H) (hD : va_D A (wx st)) (hS : va_S A s.heap H locs) (hF : some (x, st) = some o) (hdg : decode cc pc = .ok (.return_, 1)) : W p l e R s m args below meth c H locs 0 0 (MQ below (fb_Q D cl tys wx A none o.2) args s 0 0 A) (F0 m pc ls []) := by
  cases hF
  exact W.vret hx hb hr (fun t ht hW => ⟨⟨rfl, by rw [ht]; exact hP, va_K.moved hW.alike hK, hD⟩, hS.F ht⟩) hS.2.2 hdg hlocks
theorem fb_ldS {f : Nat → Int32} {n : Nat} {i v : Int32} (h : fb_ld f n i = some v) : vp_in i n ∧ v = f i.toNatClampNeg := by
  unfold fb_ld at h
  split at h
  · cases h
  · rename_i h2
    cases h
    exact ⟨h2, rfl⟩
theorem fb_stS {st st1 : fb_S} {k n : Nat} {i x : Int32} (h : fb_st st k n i x = some st1) : vp_in i n ∧ st1 = va_up st k (upd (st k) i.toNatClampNeg x) := by
  unfold fb_st at h
  split at h
  · cases h
  · rename_i h2
    cases h
    exact ⟨h2, rfl⟩
theorem fb_iald (hx : p.tables.exec = Jvm.exec) (hb : c.code = cc) (hK : va_K D cl tys s) {w : va_W} (hP : va_P D cl w H) (q0 t0 : Nat) {a : Nat} {cA : ClassId} {n : Nat} {f : Nat → Int32} (ha : w[q0]? = some (a, .inl (cA, n, .inl f))) (ht : tys[t0]? = some (cA, .int)) {i x : Int32} (hF : fb_ld f n i = some x) (hdg : decode cc pc = .ok (.iaload, 1)) (kk : W p l e R s m args below meth c H locs cells slots Q (F0 m (pc + 1) ls (.int x :: rest))) : W p l e R s m args below meth c H locs cells slots Q (F0 m pc ls (.int i :: .ref a :: rest)) := by
  obtain ⟨h1, h2⟩ := fb_ldS hF
  subst h2
  exact va_iald hx hb hK hP q0 t0 ha ht h1 hdg kk
theorem fb_bald (hx : p.tables.exec = Jvm.exec) (hb : c.code = cc) (hK : va_K D cl tys s) {w : va_W} (hP : va_P D cl w H) (q0 t0 : Nat) {a : Nat} {cA : ClassId} {n : Nat} {f : Nat → Int32} (ha : w[q0]? = some (a, .inl (cA, n, .inl f))) (ht : tys[t0]? = some (cA, .byte)) {i x : Int32} (hF : fb_ld f n i = some x) (hdg : decode cc pc = .ok (.baload, 1)) (kk : W p l e R s m args below meth c H locs cells slots Q (F0 m (pc + 1) ls (.int x :: rest))) : W p l e R s m args below meth c H locs cells slots Q (F0 m pc ls (.int i :: .ref a :: rest)) := by
  obtain ⟨h1, h2⟩ := fb_ldS hF
  subst h2
  exact va_bald hx hb hK hP q0 t0 ha ht h1 hdg kk
theorem fb_zald (hx : p.tables.exec = Jvm.exec) (hb : c.code = cc) (hK : va_K D cl tys s) {w : va_W} (hP : va_P D cl w H) (q0 t0 : Nat) {a : Nat} {cA : ClassId} {n : Nat} {f : Nat → Int32} (ha : w[q0]? = some (a, .inl (cA, n, .inl f))) (ht : tys[t0]? = some (cA, .boolean)) {i x : Int32} (hF : fb_ld f n i = some x) (hdg : decode cc pc = .ok (.baload, 1)) (kk : W p l e R s m args below meth c H locs cells slots Q (F0 m (pc + 1) ls (.int x :: rest))) : W p l e R s m args below meth c H locs cells slots Q (F0 m pc ls (.int i :: .ref a :: rest)) := by
  obtain ⟨h1, h2⟩ := fb_ldS hF
  subst h2
  exact va_zald hx hb hK hP q0 t0 ha ht h1 hdg kk
theorem fb_iast (hx : p.tables.exec = Jvm.exec) (hb : c.code = cc) (hK : va_K D cl tys s) (hP : va_P D cl (wx st) H) (hD : va_D A (wx st)) (hS : va_S A H0 H locs) (q0 t0 : Nat) {a k : Nat} {cA : ClassId} {n : Nat} (ha : (wx st)[q0]? = some (a, .inl (cA, n, .inl (st k)))) (ht : tys[t0]? = some (cA, .int)) {i x : Int32} (hF : fb_st st k n i x = some u) (hset : ∀ f : Nat → Int32, (wx st).set q0 (a, .inl (cA, n, .inl f)) = wx (va_up st k f)) (hdg : decode cc pc = .ok (.iastore, 1))
    (kk : ∀ (H1 : Heap) (locs1 : List Loc), va_P D cl (wx u) H1 → va_D A (wx u) → va_S A H0 H1 locs1 → W p l e R s m args below meth c H1 locs1 cells slots Q (F0 m (pc + 1) ls rest)) : W p l e R s m args below meth c H locs cells slots Q (F0 m pc ls (.int x :: .int i :: .ref a :: rest)) := by
  obtain ⟨h1, h2⟩ := fb_stS hF
  subst h2
  exact va_iast hx hb hK hP hD hS q0 t0 ha ht h1 hdg (fun H1 locs1 k1 k2 k3 => kk H1 locs1 (by rw [hset] at k1; exact k1) (by rw [hset] at k2; exact k2) k3)
theorem fb_bast (hx : p.tables.exec = Jvm.exec) (hb : c.code = cc) (hK : va_K D cl tys s) (hP : va_P D cl (wx st) H) (hD : va_D A (wx st)) (hS : va_S A H0 H locs) (q0 t0 : Nat) {a k : Nat} {cA : ClassId} {n : Nat} (ha : (wx st)[q0]? = some (a, .inl (cA, n, .inl (st k)))) (ht : tys[t0]? = some (cA, .byte)) {i x : Int32} (hF : fb_st st k n i (fb_b x) = some u) (hset : ∀ f : Nat → Int32, (wx st).set q0 (a, .inl (cA, n, .inl f)) = wx (va_up st k f)) (hdg : decode cc pc = .ok (.bastore, 1))
    (kk : ∀ (H1 : Heap) (locs1 : List Loc), va_P D cl (wx u) H1 → va_D A (wx u) → va_S A H0 H1 locs1 → W p l e R s m args below meth c H1 locs1 cells slots Q (F0 m (pc + 1) ls rest)) : W p l e R s m args below meth c H locs cells slots Q (F0 m pc ls (.int x :: .int i :: .ref a :: rest)) := by
  obtain ⟨h1, h2⟩ := fb_stS hF
  subst h2
  exact va_bast hx hb hK hP hD hS q0 t0 ha ht h1 hdg (fun H1 locs1 k1 k2 k3 => kk H1 locs1 (by rw [hset] at k1; exact k1) (by rw [hset] at k2; exact k2) k3)
theorem fb_ti {t N : Nat} {f : Nat → Int32} (hx : p.tables.exec = Jvm.exec) (hb : c.code = cc) (hT : va_T .int t N (fun j => .int (f j)) A s s.heap) (hS : va_S A s.heap H locs) {i x : Int32} (hF : fb_ld f N i = some x) (hdg : decode cc pc = .ok (.iaload, 1)) (kk : W p l e R s m args below meth c H locs cells slots Q (F0 m (pc + 1) ls (.int x :: rest))) : W p l e R s m args below meth c H locs cells slots Q (F0 m pc ls (.int i :: .ref t :: rest)) := by
  obtain ⟨h1, h2⟩ := fb_ldS hF
  subst h2
  exact va_ti hx hb hT hS h1 rfl hdg kk
theorem fb_tb {t N : Nat} {f : Nat → Int32} (hx : p.tables.exec = Jvm.exec) (hb : c.code = cc) (hT : va_T .byte t N (fun j => .int (f j)) A s s.heap) (hS : va_S A s.heap H locs) {i x : Int32} (hF : fb_ld f N i = some x) (hdg : decode cc pc = .ok (.baload, 1)) (kk : W p l e R s m args below meth c H locs cells slots Q (F0 m (pc + 1) ls (.int x :: rest))) : W p l e R s m args below meth c H locs cells slots Q (F0 m pc ls (.int i :: .ref t :: rest)) := by
  obtain ⟨h1, h2⟩ := fb_ldS hF
  subst h2
  exact va_tb hx hb hT hS h1 rfl hdg kk
theorem fb_zast (hx : p.tables.exec = Jvm.exec) (hb : c.code = cc) (hK : va_K D cl tys s) (hP : va_P D cl (wx st) H) (hD : va_D A (wx st)) (hS : va_S A H0 H locs) (q0 t0 : Nat) {a k : Nat} {cA : ClassId} {n : Nat} (ha : (wx st)[q0]? = some (a, .inl (cA, n, .inl (st k)))) (ht : tys[t0]? = some (cA, .boolean)) {i x : Int32} (hF : fb_st st k n i (x &&& 1) = some u) (hset : ∀ f : Nat → Int32, (wx st).set q0 (a, .inl (cA, n, .inl f)) = wx (va_up st k f)) (hdg : decode cc pc = .ok (.bastore, 1))
    (kk : ∀ (H1 : Heap) (locs1 : List Loc), va_P D cl (wx u) H1 → va_D A (wx u) → va_S A H0 H1 locs1 → W p l e R s m args below meth c H1 locs1 cells slots Q (F0 m (pc + 1) ls rest)) : W p l e R s m args below meth c H locs cells slots Q (F0 m pc ls (.int x :: .int i :: .ref a :: rest)) := by
  obtain ⟨h1, h2⟩ := fb_stS hF
  subst h2
  exact va_zast hx hb hK hP hD hS q0 t0 ha ht h1 hdg (fun H1 locs1 k1 k2 k3 => kk H1 locs1 (by rw [hset] at k1; exact k1) (by rw [hset] at k2; exact k2) k3)
end FB
end
