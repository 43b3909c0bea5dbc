abbrev wX (dA : Nat → ClassId) (a : Nat → Nat) (st : fb_S) : va_W := [(a 0, .inr (4, [.ref (a 1), .ref (a 2), .ref (a 3), .ref (a 4), .ref (a 10)])), (a 1, .inr (0, [.ref (a 2), .ref (a 3)])), (a 2, .inr (2, [.ref (a 3), .ref (a 6)])), (a 3, .inr (1, [.ref (a 5)])), (a 4, .inr (3, [.ref (a 7), .ref (a 8), .ref (a 9), .int (st 6 0)])), (a 5, .inl (dA 0, 131072, .inl (st 0))), (a 6, .inl (dA 0, 64, .inl (st 1))), (a 7, .inl (dA 1, 260, .inl (st 2))), (a 8, .inl (dA 1, 14, .inl (st 3))), (a 9, .inl (dA 1, 14, .inl (st 4))), (a 10, .inl (dA 1, 3072, .inl (st 5)))]
abbrev tX (dA : Nat → ClassId) : fb_Y := [(dA 0, .int), (dA 1, .byte)]
abbrev wM (dA : Nat → ClassId) (a : Nat → Nat) (st : fb_S) : va_W := [(a 0, .inr (5, [.int (st 14 0), .int (st 15 0), .ref (a 1), .ref (a 2), .ref (a 3), .ref (a 4), .ref (a 5), .ref (a 6), .ref (a 7), .ref (a 8), .ref (a 9), .ref (a 10), .ref (a 11), .ref (a 12), .ref (a 13), .int (st 16 0), .int (st 17 0), .ref (a 14)])), (a 1, .inl (dA 1, 260, .inl (st 0))), (a 2, .inl (dA 1, 3072, .inl (st 1))), (a 3, .inl (dA 1, 524288, .inl (st 2))), (a 4, .inl (dA 2, 512, .inl (st 3))), (a 5, .inl (dA 0, 64, .inl (st 4))), (a 6, .inl (dA 0, 64, .inl (st 5))), (a 7, .inl (dA 0, 64, .inl (st 6))), (a 8, .inl (dA 0, 64, .inl (st 7))), (a 9, .inl (dA 0, 64, .inl (st 8))), (a 10, .inl (dA 0, 64, .inl (st 9))), (a 11, .inl (dA 0, 64, .inl (st 10))), (a 12, .inl (dA 0, 17216, .inl (st 11))), (a 13, .inl (dA 0, 8, .inl (st 12))), (a 14, .inl (dA 1, 14, .inl (st 13)))]
abbrev tM (dA : Nat → ClassId) : fb_Y := [(dA 0, .int), (dA 1, .byte), (dA 2, .boolean)]
def zf_0 : Nat → Int32 := fun j => match j with | 0 => 270544960 | 1 => 512 | 2 => 474 | 3 => 64 | 4 => 31 | 5 => 2 | 6 => 33 | _ => 37
def zf_1 : Nat → Int32 := fun _ => 46
def zf_2 : Nat → Int32 := fun _ => 46
def zM : fb_Z := fun _ _ _ => True
theorem zM_mv : fb_mv zM := fun _ _ _ _ _ _ _ _ _ _ => trivial
def zX (z : Nat → Nat) : fb_Z := fun A U H => va_Z "FileTree" "SUPERBLOCK" "[I" (.ref (z 0)) A U H ∧ va_Z "FileTree" "ITSELF" "[B" (.ref (z 1)) A U H ∧ va_Z "FileTree" "ABOVE" "[B" (.ref (z 2)) A U H ∧ va_T .int (z 0) 8 (fun j => .int (zf_0 j)) A U H ∧ va_T .byte (z 1) 1 (fun j => .int (zf_1 j)) A U H ∧ va_T .byte (z 2) 2 (fun j => .int (zf_2 j)) A U H ∧ va_Nw (.fieldLinkNest "FileTree$Disk" 16 "FileTree" "SUPERBLOCK" "[I" "FileTree") U ∧ va_Nw (.fieldLinkNest "FileTree$Directories" 77 "FileTree" "ITSELF" "[B" "FileTree") U ∧ va_Nw (.fieldLinkNest "FileTree$Directories" 85 "FileTree" "ABOVE" "[B" "FileTree") U
theorem zX_mv {z : Nat → Nat} : fb_mv (zX z) := by
  intro A B u U H H1 hW hk hn h
  obtain ⟨h1, h2, h3, h4, h5, h6, h7, h8, h9⟩ := h
  have ha := hW.alike
  exact ⟨((h1.moved ha).kept hk).narrow hn, ((h2.moved ha).kept hk).narrow hn, ((h3.moved ha).kept hk).narrow hn, ((h4.moved ha).kept hk).narrow hn, ((h5.moved ha).kept hk).narrow hn, ((h6.moved ha).kept hk).narrow hn, va_Nw.warmF hW h7, va_Nw.warmF hW h8, va_Nw.warmF hW h9⟩
