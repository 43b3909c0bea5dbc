abbrev rm_D_end : Room := { frames := 3, cells := 0, slots := 0, locals := 68 }
def f_D_end (x1 : Int32) (x2 : Int32) (st : fb_S) : Option (Int32 × fb_S) := (f_I_placeOfByte x1 (0 : Int32) st).bind fun r1 => (f_D_wipeEntry r1.1 r1.2).bind fun r2 => (f_I_placeOfByte x1 (16 : Int32) r2.2).bind fun r3 => (f_D_wipeEntry r3.1 r3.2).bind fun r4 => (f_I_addLinks x2 (-1 : Int32) r4.2).bind fun r5 => some (0, r5.2)
set_option maxHeartbeats 4000000 in
set_option maxRecDepth 100000 in
theorem w_D_end_0 {p : Program} {l : Launch} {e : Env} {s : State} {m : MethodId} {args : Array Value} {below : List Frame} {meth : Method} {c : Code} {A : Nat → Prop} {dC : Nat → ClassId} {dI : Nat → Nat → Nat} {dA : Nat → ClassId} {a : Nat → Nat} {z : Nat → Nat} (CX : fb_C p s m args meth c kc_D_end none 3 "FileTree$Directories" (dC, dI) vcl (tX dA) A (zX z)) (o : Int32 × fb_S) (x1 : Int32) (x2 : Int32) (st : fb_S) (hF : f_D_end x1 x2 st = some o) : fb_G p l e (headSpec kw_D_end rm_D_end).room s m args below meth c (dC, dI) vcl (tX dA) (wX dA a) A none o.2 0 3 [(0, .ref (a 1)), (1, .int x1), (2, .int x2)] [] st := by
  intro H locs hP hD hS ls hl
  obtain ⟨hx, hb, hr, hml, hown, hts, hK, hA, hlocks, hZ⟩ := id CX
  unfold f_D_end at hF
  refine lv_aload_n hx hb kd_D_end_0 rfl (lv_at hl 0 rfl) ?_
  refine lv_aload_n hx hb kd_D_end_1 rfl (lv_at hl 0 rfl) ?_
  refine va_get (D := (dC, dI)) (ci := 0) (v := .ref (a 2)) (C := "FileTree$Directories") (T := ft_D) (N := 2) hx hb hts fi_D hown hK hP 1 rfl rfl 0 (by decide) (hts _ q_50) (fun _ h9 => h9) rfl kd_D_end_2 ?_
  refine lv_iload_n hx hb kd_D_end_5 rfl (lv_at hl 1 rfl) ?_
  refine lv_iconst (v := 0) hx hb kd_D_end_6 (by decide) ?_
  obtain ⟨r1, e_r1, hF⟩ := fb_ob hF
  refine fb_callV (As := [.int x1, .int (0 : Int32)]) (rest := [.ref (a 1)]) ⟨hx, hb, hml, hown, hts⟩ zX_mv hZ hK hP hD hS hA (c_I_placeOfByte l dC dI dA a z x1 (0 : Int32) st r1 e_r1) (cwV 2 hts (gd_V q_150 ko_I_placeOfByte) rfl rfl rfl kh_I_placeOfByte ⟨Nat.le_of_ble_eq_true rfl, Nat.le_of_ble_eq_true rfl⟩) 2 2 rfl rfl rfl rfl hl.1 rfl (Nat.le_of_ble_eq_true rfl) kd_D_end_7 ⟨Nat.zero_le _, Nat.zero_le _⟩ (fun H locs hP hD hS => ?_)
  refine W.eq (g2 := F0 m 10 ls [.int r1.1, .ref (a 1)]) rfl ?_
  obtain ⟨r2, e_r2, hF⟩ := fb_ob hF
  refine fb_callV (As := [.int r1.1]) (rest := []) ⟨hx, hb, hml, hown, hts⟩ zX_mv hZ hK hP hD hS hA (c_D_wipeEntry l dC dI dA a z r1.1 r1.2 r2 e_r2) (cwV 1 hts (gd_V q_328 ko_D_wipeEntry) rfl rfl rfl kh_D_wipeEntry ⟨Nat.le_of_ble_eq_true rfl, Nat.le_of_ble_eq_true rfl⟩) 0 1 rfl rfl rfl rfl hl.1 rfl (Nat.le_of_ble_eq_true rfl) kd_D_end_10 ⟨Nat.zero_le _, Nat.zero_le _⟩ (fun H locs hP hD hS => ?_)
  refine W.eq (g2 := F0 m 13 ls []) rfl ?_
  refine lv_aload_n hx hb kd_D_end_13 rfl (lv_at hl 0 rfl) ?_
  refine lv_aload_n hx hb kd_D_end_14 rfl (lv_at hl 0 rfl) ?_
  refine va_get (D := (dC, dI)) (ci := 0) (v := .ref (a 2)) (C := "FileTree$Directories") (T := ft_D) (N := 2) hx hb hts fi_D hown hK hP 1 rfl rfl 0 (by decide) (hts _ q_50) (fun _ h9 => h9) rfl kd_D_end_15 ?_
  refine lv_iload_n hx hb kd_D_end_18 rfl (lv_at hl 1 rfl) ?_
  refine lv_bipush (v := 16) hx hb kd_D_end_19 (by decide) ?_
  obtain ⟨r3, e_r3, hF⟩ := fb_ob hF
  refine fb_callV (As := [.int x1, .int (16 : Int32)]) (rest := [.ref (a 1)]) ⟨hx, hb, hml, hown, hts⟩ zX_mv hZ hK hP hD hS hA (c_I_placeOfByte l dC dI dA a z x1 (16 : Int32) r2.2 r3 e_r3) (cwV 2 hts (gd_V q_150 ko_I_placeOfByte) rfl rfl rfl kh_I_placeOfByte ⟨Nat.le_of_ble_eq_true rfl, Nat.le_of_ble_eq_true rfl⟩) 2 2 rfl rfl rfl rfl hl.1 rfl (Nat.le_of_ble_eq_true rfl) kd_D_end_21 ⟨Nat.zero_le _, Nat.zero_le _⟩ (fun H locs hP hD hS => ?_)
  refine W.eq (g2 := F0 m 24 ls [.int r3.1, .ref (a 1)]) rfl ?_
  obtain ⟨r4, e_r4, hF⟩ := fb_ob hF
  refine fb_callV (As := [.int r3.1]) (rest := []) ⟨hx, hb, hml, hown, hts⟩ zX_mv hZ hK hP hD hS hA (c_D_wipeEntry l dC dI dA a z r3.1 r3.2 r4 e_r4) (cwV 1 hts (gd_V q_328 ko_D_wipeEntry) rfl rfl rfl kh_D_wipeEntry ⟨Nat.le_of_ble_eq_true rfl, Nat.le_of_ble_eq_true rfl⟩) 0 1 rfl rfl rfl rfl hl.1 rfl (Nat.le_of_ble_eq_true rfl) kd_D_end_24 ⟨Nat.zero_le _, Nat.zero_le _⟩ (fun H locs hP hD hS => ?_)
  refine W.eq (g2 := F0 m 27 ls []) rfl ?_
  refine lv_aload_n hx hb kd_D_end_27 rfl (lv_at hl 0 rfl) ?_
  refine va_get (D := (dC, dI)) (ci := 0) (v := .ref (a 2)) (C := "FileTree$Directories") (T := ft_D) (N := 2) hx hb hts fi_D hown hK hP 1 rfl rfl 0 (by decide) (hts _ q_50) (fun _ h9 => h9) rfl kd_D_end_28 ?_
  refine lv_iload_n hx hb kd_D_end_31 rfl (lv_at hl 2 rfl) ?_
  refine lv_iconst (v := (-1)) hx hb kd_D_end_32 (by decide) ?_
  obtain ⟨r5, e_r5, hF⟩ := fb_ob hF
  refine fb_callV (As := [.int x2, .int (-1 : Int32)]) (rest := []) ⟨hx, hb, hml, hown, hts⟩ zX_mv hZ hK hP hD hS hA (c_I_addLinks l dC dI dA a z x2 (-1 : Int32) r4.2 r5 e_r5) (cwV 2 hts (gd_V q_199 ko_I_addLinks) rfl rfl rfl kh_I_addLinks ⟨Nat.le_of_ble_eq_true rfl, Nat.le_of_ble_eq_true rfl⟩) 2 2 rfl rfl rfl rfl hl.1 rfl (Nat.le_of_ble_eq_true rfl) kd_D_end_33 ⟨Nat.zero_le _, Nat.zero_le _⟩ (fun H locs hP hD hS => ?_)
  refine W.eq (g2 := F0 m 36 ls []) rfl ?_
  exact fb_rv (o := o) hx hb hr hlocks hK hP hD hS hF kd_D_end_36
theorem c_D_end (l : Launch) (dC : Nat → ClassId) (dI : Nat → Nat → Nat) (dA : Nat → ClassId) (a : Nat → Nat) (z : Nat → Nat) (x1 : Int32) (x2 : Int32) (st : fb_S) (o : Int32 × fb_S) (h : f_D_end x1 x2 st = some o) : fb_M l ky_D_end kw_D_end rm_D_end (dC, dI) vcl (tX dA) (wX dA a) (zX z) [.ref (a 1), .int x1, .int x2] none st o.2 := fb_enter (by decide) rfl (Nat.le_of_ble_eq_true rfl) (fun p e s m below meth c A CX hP hD hS ls hl => w_D_end_0 CX o x1 x2 st h s.heap [] hP hD hS ls hl)
abbrev rm_T_unlink : Room := { frames := 5, cells := 0, slots := 0, locals := 119 }
def b_T_unlink_118 (x3 : Int32) (x4 : Int32) (st : fb_S) : Option (Int32 × fb_S) := (f_D_wipeEntry x3 st).bind fun r1 => (f_I_addLinks x4 (-1 : Int32) r1.2).bind fun r2 => (f_I_freeIfLeft x4 r2.2).bind fun r3 => some (x4, r3.2)
set_option maxHeartbeats 4000000 in
set_option maxRecDepth 100000 in
theorem w_T_unlink_118 {p : Program} {l : Launch} {e : Env} {s : State} {m : MethodId} {args : Array Value} {below : List Frame} {meth : Method} {c : Code} {A : Nat → Prop} {dC : Nat → ClassId} {dI : Nat → Nat → Nat} {dA : Nat → ClassId} {a : Nat → Nat} {z : Nat → Nat} (CX : fb_C p s m args meth c kc_T_unlink (some .int) 5 "FileTree" (dC, dI) vcl (tX dA) A (zX z)) (o : Int32 × fb_S) (x3 : Int32) (x4 : Int32) (st : fb_S) (hF : b_T_unlink_118 x3 x4 st = some o) : fb_G p l e (headSpec kw_T_unlink rm_T_unlink).room s m args below meth c (dC, dI) vcl (tX dA) (wX dA a) A (some (.int o.1)) o.2 118 5 [(0, .ref (a 0)), (3, .int x3), (4, .int x4)] [] st := by
  intro H locs hP hD hS ls hl
  obtain ⟨hx, hb, hr, hml, hown, hts, hK, hA, hlocks, hZ⟩ := id CX
  unfold b_T_unlink_118 at hF
  refine lv_aload_n hx hb kd_T_unlink_118 rfl (lv_at hl 0 rfl) ?_
  refine va_get (D := (dC, dI)) (ci := 4) (v := .ref (a 1)) (C := "FileTree") (T := ft_T) (N := 5) hx hb hts fi_T hown hK hP 0 rfl rfl 0 (by decide) (hts _ q_207) (fun _ h9 => h9) rfl kd_T_unlink_119 ?_
  refine lv_iload_n hx hb kd_T_unlink_122 rfl (lv_at hl 1 rfl) ?_
  obtain ⟨r1, e_r1, hF⟩ := fb_ob hF
  refine fb_callV (As := [.int x3]) (rest := []) ⟨hx, hb, hml, hown, hts⟩ zX_mv hZ hK hP hD hS hA (c_D_wipeEntry l dC dI dA a z x3 st r1 e_r1) (cwV 1 hts (gd_V q_333 ko_D_wipeEntry) rfl rfl rfl kh_D_wipeEntry ⟨Nat.le_of_ble_eq_true rfl, Nat.le_of_ble_eq_true rfl⟩) 0 1 rfl rfl rfl rfl hl.1 rfl (Nat.le_of_ble_eq_true rfl) kd_T_unlink_123 ⟨Nat.zero_le _, Nat.zero_le _⟩ (fun H locs hP hD hS => ?_)
  refine W.eq (g2 := F0 m 126 ls []) rfl ?_
  refine lv_aload_n hx hb kd_T_unlink_126 rfl (lv_at hl 0 rfl) ?_
  refine va_get (D := (dC, dI)) (ci := 4) (v := .ref (a 2)) (C := "FileTree") (T := ft_T) (N := 5) hx hb hts fi_T hown hK hP 0 rfl rfl 1 (by decide) (hts _ q_208) (fun _ h9 => h9) rfl kd_T_unlink_127 ?_
  refine lv_iload hx hb kd_T_unlink_130 (lv_at hl 2 rfl) ?_
  refine lv_iconst (v := (-1)) hx hb kd_T_unlink_132 (by decide) ?_
  obtain ⟨r2, e_r2, hF⟩ := fb_ob hF
  refine fb_callV (As := [.int x4, .int (-1 : Int32)]) (rest := []) ⟨hx, hb, hml, hown, hts⟩ zX_mv hZ hK hP hD hS hA (c_I_addLinks l dC dI dA a z x4 (-1 : Int32) r1.2 r2 e_r2) (cwV 2 hts (gd_V q_311 ko_I_addLinks) rfl rfl rfl kh_I_addLinks ⟨Nat.le_of_ble_eq_true rfl, Nat.le_of_ble_eq_true rfl⟩) 2 2 rfl rfl rfl rfl hl.1 rfl (Nat.le_of_ble_eq_true rfl) kd_T_unlink_133 ⟨Nat.zero_le _, Nat.zero_le _⟩ (fun H locs hP hD hS => ?_)
  refine W.eq (g2 := F0 m 136 ls []) rfl ?_
  refine lv_aload_n hx hb kd_T_unlink_136 rfl (lv_at hl 0 rfl) ?_
  refine va_get (D := (dC, dI)) (ci := 4) (v := .ref (a 2)) (C := "FileTree") (T := ft_T) (N := 5) hx hb hts fi_T hown hK hP 0 rfl rfl 1 (by decide) (hts _ q_208) (fun _ h9 => h9) rfl kd_T_unlink_137 ?_
  refine lv_iload hx hb kd_T_unlink_140 (lv_at hl 2 rfl) ?_
  obtain ⟨r3, e_r3, hF⟩ := fb_ob hF
  refine fb_callV (As := [.int x4]) (rest := []) ⟨hx, hb, hml, hown, hts⟩ zX_mv hZ hK hP hD hS hA (c_I_freeIfLeft l dC dI dA a z x4 r2.2 r3 e_r3) (cwV 1 hts (gd_V q_334 ko_I_freeIfLeft) rfl rfl rfl kh_I_freeIfLeft ⟨Nat.le_of_ble_eq_true rfl, Nat.le_of_ble_eq_true rfl⟩) 2 2 rfl rfl rfl rfl hl.1 rfl (Nat.le_of_ble_eq_true rfl) kd_T_unlink_142 ⟨Nat.zero_le _, Nat.zero_le _⟩ (fun H locs hP hD hS => ?_)
  refine W.eq (g2 := F0 m 145 ls [.int r3.1]) rfl ?_
  refine lv_pop hx hb kd_T_unlink_145 rfl ?_
  refine lv_iload hx hb kd_T_unlink_146 (lv_at hl 2 rfl) ?_
  exact fb_ri (o := o) hx hb hr hlocks hK hP hD hS hF kd_T_unlink_148
def f_T_unlink (x1 : Int32) (st : fb_S) : Option (Int32 × fb_S) := (f_X_cutLastName (0 : Int32) (st 6 0) st).bind fun r1 => (f_T_lead x1 (0 : Int32) r1.1 r1.2).bind fun r2 => (f_X_empty r2.2).bind fun r3 => (if r2.1 = (-1 : Int32) then some ((-1 : Int32), r3.2) else (f_X_lastIsDots r3.2).bind fun r5 => (if r5.1 = (0 : Int32) then (f_D_entryNamed_last r2.1 r5.2).bind fun r7 => (if r7.1 = (-1 : Int32) then some ((-1 : Int32), r7.2) else (f_K_partAt r7.1 (65535 : Int32) r7.2).bind fun r9 => (f_I_kindOf r9.1 r9.2).bind fun r10 => (if r10.1 = (1 : Int32) then (f_D_hasOnlyItsTwo r9.1 r10.2).bind fun r12 => (if r12.1 = (0 : Int32) then some ((-1 : Int32), r12.2) else (f_D_end r9.1 r2.1 r12.2).bind fun r14 => b_T_unlink_118 r7.1 r9.1 r14.2) else b_T_unlink_118 r7.1 r9.1 r10.2)) else some ((-1 : Int32), r5.2)))
set_option maxHeartbeats 4000000 in
set_option maxRecDepth 100000 in
theorem w_T_unlink_0 {p : Program} {l : Launch} {e : Env} {s : State} {m : MethodId} {args : Array Value} {below : List Frame} {meth : Method} {c : Code} {A : Nat → Prop} {dC : Nat → ClassId} {dI : Nat → Nat → Nat} {dA : Nat → ClassId} {a : Nat → Nat} {z : Nat → Nat} (CX : fb_C p s m args meth c kc_T_unlink (some .int) 5 "FileTree" (dC, dI) vcl (tX dA) A (zX z)) (o : Int32 × fb_S) (x1 : Int32) (st : fb_S) (hF : f_T_unlink x1 st = some o) : fb_G p l e (headSpec kw_T_unlink rm_T_unlink).room s m args below meth c (dC, dI) vcl (tX dA) (wX dA a) A (some (.int o.1)) o.2 0 5 [(0, .ref (a 0)), (1, .int x1)] [] st := by
  intro H locs hP hD hS ls hl
  obtain ⟨hx, hb, hr, hml, hown, hts, hK, hA, hlocks, hZ⟩ := id CX
  unfold f_T_unlink at hF
  refine lv_aload_n hx hb kd_T_unlink_0 rfl (lv_at hl 0 rfl) ?_
  refine lv_iload_n hx hb kd_T_unlink_1 rfl (lv_at hl 1 rfl) ?_
  refine lv_iconst (v := 0) hx hb kd_T_unlink_2 (by decide) ?_
  refine lv_aload_n hx hb kd_T_unlink_3 rfl (lv_at hl 0 rfl) ?_
  refine va_get (D := (dC, dI)) (ci := 4) (v := .ref (a 4)) (C := "FileTree") (T := ft_T) (N := 5) hx hb hts fi_T hown hK hP 0 rfl rfl 3 (by decide) (hts _ q_210) (fun _ h9 => h9) rfl kd_T_unlink_4 ?_
  refine lv_iconst (v := 0) hx hb kd_T_unlink_7 (by decide) ?_
  refine lv_aload_n hx hb kd_T_unlink_8 rfl (lv_at hl 0 rfl) ?_
  refine va_get (D := (dC, dI)) (ci := 4) (v := .ref (a 4)) (C := "FileTree") (T := ft_T) (N := 5) hx hb hts fi_T hown hK hP 0 rfl rfl 3 (by decide) (hts _ q_210) (fun _ h9 => h9) rfl kd_T_unlink_9 ?_
  refine va_get (D := (dC, dI)) (ci := 3) (v := .int (st 6 0)) (C := "FileTree$Text") (T := ft_X) (N := 4) hx hb hts fi_X hown hK hP 4 rfl rfl 3 (by decide) (hts _ q_70) (fun _ h9 => h9) rfl kd_T_unlink_12 ?_
  obtain ⟨r1, e_r1, hF⟩ := fb_ob hF
  refine fb_callV (As := [.int (0 : Int32), .int (st 6 0)]) (rest := [.int (0 : Int32), .int x1, .ref (a 0)]) ⟨hx, hb, hml, hown, hts⟩ zX_mv hZ hK hP hD hS hA (c_X_cutLastName l dC dI dA a z (0 : Int32) (st 6 0) st r1 e_r1) (cwV 2 hts (gd_V q_280 ko_X_cutLastName) rfl rfl rfl kh_X_cutLastName ⟨Nat.le_of_ble_eq_true rfl, Nat.le_of_ble_eq_true rfl⟩) 3 4 rfl rfl rfl rfl hl.1 rfl (Nat.le_of_ble_eq_true rfl) kd_T_unlink_15 ⟨Nat.zero_le _, Nat.zero_le _⟩ (fun H locs hP hD hS => ?_)
  refine W.eq (g2 := F0 m 18 ls [.int r1.1, .int (0 : Int32), .int x1, .ref (a 0)]) rfl ?_
  obtain ⟨r2, e_r2, hF⟩ := fb_ob hF
  refine fb_callV (As := [.int x1, .int (0 : Int32), .int r1.1]) (rest := []) ⟨hx, hb, hml, hown, hts⟩ zX_mv hZ hK hP hD hS hA (c_T_lead l dC dI dA a z x1 (0 : Int32) r1.1 r1.2 r2 e_r2) (cwV 3 hts (gd_V q_236 ko_T_lead) rfl rfl rfl kh_T_lead ⟨Nat.le_of_ble_eq_true rfl, Nat.le_of_ble_eq_true rfl⟩) 4 0 rfl rfl rfl rfl hl.1 rfl (Nat.le_of_ble_eq_true rfl) kd_T_unlink_18 ⟨Nat.zero_le _, Nat.zero_le _⟩ (fun H locs hP hD hS => ?_)
  refine W.eq (g2 := F0 m 21 ls [.int r2.1]) rfl ?_
  refine lv_istore_n (lv' := [(2, .int r2.1), (0, .ref (a 0)), (1, .int x1)]) hx hb kd_T_unlink_21 rfl hl (by decide) rfl (fun ls hl => ?_)
  refine lv_aload_n hx hb kd_T_unlink_22 rfl (lv_at hl 1 rfl) ?_
  refine va_get (D := (dC, dI)) (ci := 4) (v := .ref (a 4)) (C := "FileTree") (T := ft_T) (N := 5) hx hb hts fi_T hown hK hP 0 rfl rfl 3 (by decide) (hts _ q_210) (fun _ h9 => h9) rfl kd_T_unlink_23 ?_
  obtain ⟨r3, e_r3, hF⟩ := fb_ob hF
  refine fb_callV (As := []) (rest := []) ⟨hx, hb, hml, hown, hts⟩ zX_mv hZ hK hP hD hS hA (c_X_empty l dC dI dA a z r2.2 r3 e_r3) (cwV 0 hts (gd_V q_272 ko_X_empty) rfl rfl rfl kh_X_empty ⟨Nat.le_of_ble_eq_true rfl, Nat.le_of_ble_eq_true rfl⟩) 3 4 rfl rfl rfl rfl hl.1 rfl (Nat.le_of_ble_eq_true rfl) kd_T_unlink_26 ⟨Nat.zero_le _, Nat.zero_le _⟩ (fun H locs hP hD hS => ?_)
  refine W.eq (g2 := F0 m 29 ls []) rfl ?_
  refine lv_iload_n hx hb kd_T_unlink_29 rfl (lv_at hl 0 rfl) ?_
  refine lv_iconst (v := (-1)) hx hb kd_T_unlink_30 (by decide) ?_
  refine lv_icmp_eq (tgt := 44) hx hb kd_T_unlink_31 (by decide) (fun c4 => ?_) (fun c4 => ?_)
  · rw [if_pos c4] at hF
    refine lv_iconst (v := (-1)) hx hb kd_T_unlink_44 (by decide) ?_
    exact fb_ri (o := o) hx hb hr hlocks hK hP hD hS hF kd_T_unlink_45
  · rw [if_neg c4] at hF
    refine lv_aload_n hx hb kd_T_unlink_34 rfl (lv_at hl 1 rfl) ?_
    refine va_get (D := (dC, dI)) (ci := 4) (v := .ref (a 4)) (C := "FileTree") (T := ft_T) (N := 5) hx hb hts fi_T hown hK hP 0 rfl rfl 3 (by decide) (hts _ q_210) (fun _ h9 => h9) rfl kd_T_unlink_35 ?_
    obtain ⟨r5, e_r5, hF⟩ := fb_ob hF
    refine fb_callV (As := []) (rest := []) ⟨hx, hb, hml, hown, hts⟩ zX_mv hZ hK hP hD hS hA (c_X_lastIsDots l dC dI dA a z r3.2 r5 e_r5) (cwV 0 hts (gd_V q_316 ko_X_lastIsDots) rfl rfl rfl kh_X_lastIsDots ⟨Nat.le_of_ble_eq_true rfl, Nat.le_of_ble_eq_true rfl⟩) 3 4 rfl rfl rfl rfl hl.1 rfl (Nat.le_of_ble_eq_true rfl) kd_T_unlink_38 ⟨Nat.zero_le _, Nat.zero_le _⟩ (fun H locs hP hD hS => ?_)
    refine W.eq (g2 := F0 m 41 ls [.int r5.1]) rfl ?_
    refine lv_if_eq (tgt := 46) hx hb kd_T_unlink_41 (by decide) (fun c6 => ?_) (fun c6 => ?_)
    · rw [if_pos c6] at hF
      refine lv_aload_n hx hb kd_T_unlink_46 rfl (lv_at hl 1 rfl) ?_
      refine va_get (D := (dC, dI)) (ci := 4) (v := .ref (a 1)) (C := "FileTree") (T := ft_T) (N := 5) hx hb hts fi_T hown hK hP 0 rfl rfl 0 (by decide) (hts _ q_207) (fun _ h9 => h9) rfl kd_T_unlink_47 ?_
      refine lv_iload_n hx hb kd_T_unlink_50 rfl (lv_at hl 0 rfl) ?_
      refine lv_aload_n hx hb kd_T_unlink_51 rfl (lv_at hl 1 rfl) ?_
      refine va_get (D := (dC, dI)) (ci := 4) (v := .ref (a 4)) (C := "FileTree") (T := ft_T) (N := 5) hx hb hts fi_T hown hK hP 0 rfl rfl 3 (by decide) (hts _ q_210) (fun _ h9 => h9) rfl kd_T_unlink_52 ?_
      refine va_get (D := (dC, dI)) (ci := 3) (v := .ref (a 9)) (C := "FileTree$Text") (T := ft_X) (N := 4) hx hb hts fi_X hown hK hP 4 rfl rfl 2 (by decide) (hts _ q_68) (fun _ h9 => h9) rfl kd_T_unlink_55 ?_
      obtain ⟨r7, e_r7, hF⟩ := fb_ob hF
      refine fb_callV (As := [.int r2.1, .ref (a 9)]) (rest := []) ⟨hx, hb, hml, hown, hts⟩ zX_mv hZ hK hP hD hS hA (c_D_entryNamed_last l dC dI dA a z r2.1 r5.2 r7 e_r7) (cwV 2 hts (gd_V q_262 ko_D_entryNamed) rfl rfl rfl kh_D_entryNamed ⟨Nat.le_of_ble_eq_true rfl, Nat.le_of_ble_eq_true rfl⟩) 0 1 rfl rfl rfl rfl hl.1 rfl (Nat.le_of_ble_eq_true rfl) kd_T_unlink_58 ⟨Nat.zero_le _, Nat.zero_le _⟩ (fun H locs hP hD hS => ?_)
      refine W.eq (g2 := F0 m 61 ls [.int r7.1]) rfl ?_
      refine lv_istore_n (lv' := [(3, .int r7.1), (2, .int r2.1), (0, .ref (a 0)), (1, .int x1)]) hx hb kd_T_unlink_61 rfl hl (by decide) rfl (fun ls hl => ?_)
      refine lv_iload_n hx hb kd_T_unlink_62 rfl (lv_at hl 0 rfl) ?_
      refine lv_iconst (v := (-1)) hx hb kd_T_unlink_63 (by decide) ?_
      refine lv_icmp_ne (tgt := 69) hx hb kd_T_unlink_64 (by decide) (fun c8 => ?_) (fun c8 => ?_)
      · rw [if_neg c8] at hF
        refine lv_aload_n hx hb kd_T_unlink_69 rfl (lv_at hl 2 rfl) ?_
        refine va_get (D := (dC, dI)) (ci := 4) (v := .ref (a 3)) (C := "FileTree") (T := ft_T) (N := 5) hx hb hts fi_T hown hK hP 0 rfl rfl 2 (by decide) (hts _ q_209) (fun _ h9 => h9) rfl kd_T_unlink_70 ?_
        refine lv_iload_n hx hb kd_T_unlink_73 rfl (lv_at hl 0 rfl) ?_
        refine lv_ldc (v := 65535) hx hb hown (hts _ q_270) kd_T_unlink_74 ?_
        obtain ⟨r9, e_r9, hF⟩ := fb_ob hF
        refine fb_callV (As := [.int r7.1, .int (65535 : Int32)]) (rest := []) ⟨hx, hb, hml, hown, hts⟩ zX_mv hZ hK hP hD hS hA (c_K_partAt l dC dI dA a z r7.1 (65535 : Int32) r7.2 r9 e_r9) (cwV 2 hts (gd_V q_271 ko_K_partAt) rfl rfl rfl kh_K_partAt ⟨Nat.le_of_ble_eq_true rfl, Nat.le_of_ble_eq_true rfl⟩) 1 3 rfl rfl rfl rfl hl.1 rfl (Nat.le_of_ble_eq_true rfl) kd_T_unlink_76 ⟨Nat.zero_le _, Nat.zero_le _⟩ (fun H locs hP hD hS => ?_)
        refine W.eq (g2 := F0 m 79 ls [.int r9.1]) rfl ?_
        refine lv_istore (lv' := [(4, .int r9.1), (3, .int r7.1), (2, .int r2.1), (0, .ref (a 0)), (1, .int x1)]) hx hb kd_T_unlink_79 hl (by decide) rfl (fun ls hl => ?_)
        refine lv_aload_n hx hb kd_T_unlink_81 rfl (lv_at hl 3 rfl) ?_
        refine va_get (D := (dC, dI)) (ci := 4) (v := .ref (a 2)) (C := "FileTree") (T := ft_T) (N := 5) hx hb hts fi_T hown hK hP 0 rfl rfl 1 (by decide) (hts _ q_208) (fun _ h9 => h9) rfl kd_T_unlink_82 ?_
        refine lv_iload hx hb kd_T_unlink_85 (lv_at hl 0 rfl) ?_
        obtain ⟨r10, e_r10, hF⟩ := fb_ob hF
        refine fb_callV (As := [.int r9.1]) (rest := []) ⟨hx, hb, hml, hown, hts⟩ zX_mv hZ hK hP hD hS hA (c_I_kindOf l dC dI dA a z r9.1 r9.2 r10 e_r10) (cwV 1 hts (gd_V q_287 ko_I_kindOf) rfl rfl rfl kh_I_kindOf ⟨Nat.le_of_ble_eq_true rfl, Nat.le_of_ble_eq_true rfl⟩) 2 2 rfl rfl rfl rfl hl.1 rfl (Nat.le_of_ble_eq_true rfl) kd_T_unlink_87 ⟨Nat.zero_le _, Nat.zero_le _⟩ (fun H locs hP hD hS => ?_)
        refine W.eq (g2 := F0 m 90 ls [.int r10.1]) rfl ?_
        refine lv_iconst (v := 1) hx hb kd_T_unlink_90 (by decide) ?_
        refine lv_icmp_ne (tgt := 118) hx hb kd_T_unlink_91 (by decide) (fun c11 => ?_) (fun c11 => ?_)
        · rw [if_neg c11] at hF
          exact w_T_unlink_118 CX o r7.1 r9.1 r10.2 hF H locs hP hD hS ls (lv_sub hl [3, 1, 0] rfl)
        · rw [if_pos c11] at hF
          refine lv_aload_n hx hb kd_T_unlink_94 rfl (lv_at hl 3 rfl) ?_
          refine va_get (D := (dC, dI)) (ci := 4) (v := .ref (a 1)) (C := "FileTree") (T := ft_T) (N := 5) hx hb hts fi_T hown hK hP 0 rfl rfl 0 (by decide) (hts _ q_207) (fun _ h9 => h9) rfl kd_T_unlink_95 ?_
          refine lv_iload hx hb kd_T_unlink_98 (lv_at hl 0 rfl) ?_
          obtain ⟨r12, e_r12, hF⟩ := fb_ob hF
          refine fb_callV (As := [.int r9.1]) (rest := []) ⟨hx, hb, hml, hown, hts⟩ zX_mv hZ hK hP hD hS hA (c_D_hasOnlyItsTwo l dC dI dA a z r9.1 r10.2 r12 e_r12) (cwV 1 hts (gd_V q_320 ko_D_hasOnlyItsTwo) rfl rfl rfl kh_D_hasOnlyItsTwo ⟨Nat.le_of_ble_eq_true rfl, Nat.le_of_ble_eq_true rfl⟩) 0 1 rfl rfl rfl rfl hl.1 rfl (Nat.le_of_ble_eq_true rfl) kd_T_unlink_100 ⟨Nat.zero_le _, Nat.zero_le _⟩ (fun H locs hP hD hS => ?_)
          refine W.eq (g2 := F0 m 103 ls [.int r12.1]) rfl ?_
          refine lv_if_ne (tgt := 108) hx hb kd_T_unlink_103 (by decide) (fun c13 => ?_) (fun c13 => ?_)
          · rw [if_neg c13] at hF
            refine lv_aload_n hx hb kd_T_unlink_108 rfl (lv_at hl 3 rfl) ?_
            refine va_get (D := (dC, dI)) (ci := 4) (v := .ref (a 1)) (C := "FileTree") (T := ft_T) (N := 5) hx hb hts fi_T hown hK hP 0 rfl rfl 0 (by decide) (hts _ q_207) (fun _ h9 => h9) rfl kd_T_unlink_109 ?_
            refine lv_iload hx hb kd_T_unlink_112 (lv_at hl 0 rfl) ?_
            refine lv_iload_n hx hb kd_T_unlink_114 rfl (lv_at hl 2 rfl) ?_
            obtain ⟨r14, e_r14, hF⟩ := fb_ob hF
            refine fb_callV (As := [.int r9.1, .int r2.1]) (rest := []) ⟨hx, hb, hml, hown, hts⟩ zX_mv hZ hK hP hD hS hA (c_D_end l dC dI dA a z r9.1 r2.1 r12.2 r14 e_r14) (cwV 2 hts (gd_V q_324 ko_D_end) rfl rfl rfl kh_D_end ⟨Nat.le_of_ble_eq_true rfl, Nat.le_of_ble_eq_true rfl⟩) 0 1 rfl rfl rfl rfl hl.1 rfl (Nat.le_of_ble_eq_true rfl) kd_T_unlink_115 ⟨Nat.zero_le _, Nat.zero_le _⟩ (fun H locs hP hD hS => ?_)
            refine W.eq (g2 := F0 m 118 ls []) rfl ?_
            exact w_T_unlink_118 CX o r7.1 r9.1 r14.2 hF H locs hP hD hS ls (lv_sub hl [3, 1, 0] rfl)
          · rw [if_pos c13] at hF
            refine lv_iconst (v := (-1)) hx hb kd_T_unlink_106 (by decide) ?_
            exact fb_ri (o := o) hx hb hr hlocks hK hP hD hS hF kd_T_unlink_107
      · rw [if_pos c8] at hF
        refine lv_iconst (v := (-1)) hx hb kd_T_unlink_67 (by decide) ?_
        exact fb_ri (o := o) hx hb hr hlocks hK hP hD hS hF kd_T_unlink_68
    · rw [if_neg c6] at hF
      refine lv_iconst (v := (-1)) hx hb kd_T_unlink_44 (by decide) ?_
      exact fb_ri (o := o) hx hb hr hlocks hK hP hD hS hF kd_T_unlink_45
theorem c_T_unlink (l : Launch) (dC : Nat → ClassId) (dI : Nat → Nat → Nat) (dA : Nat → ClassId) (a : Nat → Nat) (z : Nat → Nat) (x1 : Int32) (st : fb_S) (o : Int32 × fb_S) (h : f_T_unlink x1 st = some o) : fb_M l ky_T_unlink kw_T_unlink rm_T_unlink (dC, dI) vcl (tX dA) (wX dA a) (zX z) [.ref (a 0), .int x1] (some (.int o.1)) st o.2 := fb_enter (by decide) rfl (Nat.le_of_ble_eq_true rfl) (fun p e s m below meth c A CX hP hD hS ls hl => w_T_unlink_0 CX o x1 st h s.heap [] hP hD hS ls hl)
abbrev rm_I_addHeld : Room := { frames := 1, cells := 0, slots := 0, locals := 21 }
def f_I_addHeld (x1 : Int32) (x2 : Int32) (st : fb_S) : Option (Int32 × fb_S) := (f_I_isInode x1 st).bind fun r1 => (if r1.1 = (0 : Int32) then some (0, r1.2) else (fb_ld (r1.2 1) 64 x1).bind fun v3 => (fb_st r1.2 1 64 x1 (v3 + x2)).bind fun s4 => some (0, s4))
set_option maxHeartbeats 4000000 in
set_option maxRecDepth 100000 in
theorem w_I_addHeld_0 {p : Program} {l : Launch} {e : Env} {s : State} {m : MethodId} {args : Array Value} {below : List Frame} {meth : Method} {c : Code} {A : Nat → Prop} {dC : Nat → ClassId} {dI : Nat → Nat → Nat} {dA : Nat → ClassId} {a : Nat → Nat} {z : Nat → Nat} (CX : fb_C p s m args meth c kc_I_addHeld none 3 "FileTree$Inodes" (dC, dI) vcl (tX dA) A (zX z)) (o : Int32 × fb_S) (x1 : Int32) (x2 : Int32) (st : fb_S) (hF : f_I_addHeld x1 x2 st = some o) : fb_G p l e (headSpec kw_I_addHeld rm_I_addHeld).room s m args below meth c (dC, dI) vcl (tX dA) (wX dA a) A none o.2 0 3 [(0, .ref (a 2)), (1, .int x1), (2, .int x2)] [] st := by
  intro H locs hP hD hS ls hl
  obtain ⟨hx, hb, hr, hml, hown, hts, hK, hA, hlocks, hZ⟩ := id CX
  unfold f_I_addHeld at hF
  refine lv_aload_n hx hb kd_I_addHeld_0 rfl (lv_at hl 0 rfl) ?_
  refine lv_iload_n hx hb kd_I_addHeld_1 rfl (lv_at hl 1 rfl) ?_
  obtain ⟨r1, e_r1, hF⟩ := fb_ob hF
  refine fb_callV (As := [.int x1]) (rest := []) ⟨hx, hb, hml, hown, hts⟩ zX_mv hZ hK hP hD hS hA (c_I_isInode l dC dI dA a z x1 st r1 e_r1) (cwV 1 hts (gd_V q_108 ko_I_isInode) rfl rfl rfl kh_I_isInode ⟨Nat.le_of_ble_eq_true rfl, Nat.le_of_ble_eq_true rfl⟩) 2 2 rfl rfl rfl rfl hl.1 rfl (Nat.le_of_ble_eq_true rfl) kd_I_addHeld_2 ⟨Nat.zero_le _, Nat.zero_le _⟩ (fun H locs hP hD hS => ?_)
  refine W.eq (g2 := F0 m 5 ls [.int r1.1]) rfl ?_
  refine lv_if_eq (tgt := 18) hx hb kd_I_addHeld_5 (by decide) (fun c2 => ?_) (fun c2 => ?_)
  · rw [if_pos c2] at hF
    exact fb_rv (o := o) hx hb hr hlocks hK hP hD hS hF kd_I_addHeld_18
  · rw [if_neg c2] at hF
    refine lv_aload_n hx hb kd_I_addHeld_8 rfl (lv_at hl 0 rfl) ?_
    refine va_get (D := (dC, dI)) (ci := 2) (v := .ref (a 6)) (C := "FileTree$Inodes") (T := ft_I) (N := 2) hx hb hts fi_I hown hK hP 2 rfl rfl 1 (by decide) (hts _ q_44) (fun _ h9 => h9) rfl kd_I_addHeld_9 ?_
    refine lv_iload_n hx hb kd_I_addHeld_12 rfl (lv_at hl 1 rfl) ?_
    refine lv_dup2_11 hx hb kd_I_addHeld_13 rfl rfl ?_
    obtain ⟨v3, e_v3, hF⟩ := fb_ob hF
    refine fb_iald hx hb hK hP 6 0 rfl rfl e_v3 kd_I_addHeld_14 ?_
    refine lv_iload_n hx hb kd_I_addHeld_15 rfl (lv_at hl 2 rfl) ?_
    refine lv_iadd hx hb kd_I_addHeld_16 ?_
    obtain ⟨s4, e_s4, hF⟩ := fb_ob hF
    refine fb_iast (wx := (wX dA a)) (k := 1) hx hb hK hP hD hS 6 0 rfl rfl e_s4 (fun _ => rfl) kd_I_addHeld_17 (fun H locs hP hD hS => ?_)
    exact fb_rv (o := o) hx hb hr hlocks hK hP hD hS hF kd_I_addHeld_18
theorem c_I_addHeld (l : Launch) (dC : Nat → ClassId) (dI : Nat → Nat → Nat) (dA : Nat → ClassId) (a : Nat → Nat) (z : Nat → Nat) (x1 : Int32) (x2 : Int32) (st : fb_S) (o : Int32 × fb_S) (h : f_I_addHeld x1 x2 st = some o) : fb_M l ky_I_addHeld kw_I_addHeld rm_I_addHeld (dC, dI) vcl (tX dA) (wX dA a) (zX z) [.ref (a 2), .int x1, .int x2] none st o.2 := fb_enter (by decide) rfl (Nat.le_of_ble_eq_true rfl) (fun p e s m below meth c A CX hP hD hS ls hl => w_I_addHeld_0 CX o x1 x2 st h s.heap [] hP hD hS ls hl)
abbrev rm_T_hold : Room := { frames := 3, cells := 0, slots := 0, locals := 66 }
def f_T_hold (x1 : Int32) (st : fb_S) : Option (Int32 × fb_S) := (f_I_inUse x1 st).bind fun r1 => (if r1.1 = (0 : Int32) then fb_rz (0 : Int32) r1.2 else (f_I_addHeld x1 (1 : Int32) r1.2).bind fun r3 => fb_rz (1 : Int32) r3.2)
set_option maxHeartbeats 4000000 in
set_option maxRecDepth 100000 in
theorem w_T_hold_0 {p : Program} {l : Launch} {e : Env} {s : State} {m : MethodId} {args : Array Value} {below : List Frame} {meth : Method} {c : Code} {A : Nat → Prop} {dC : Nat → ClassId} {dI : Nat → Nat → Nat} {dA : Nat → ClassId} {a : Nat → Nat} {z : Nat → Nat} (CX : fb_C p s m args meth c kc_T_hold (some .boolean) 2 "FileTree" (dC, dI) vcl (tX dA) A (zX z)) (o : Int32 × fb_S) (x1 : Int32) (st : fb_S) (hF : f_T_hold x1 st = some o) : fb_G p l e (headSpec kw_T_hold rm_T_hold).room s m args below meth c (dC, dI) vcl (tX dA) (wX dA a) A (some (.int o.1)) o.2 0 2 [(0, .ref (a 0)), (1, .int x1)] [] st := by
  intro H locs hP hD hS ls hl
  obtain ⟨hx, hb, hr, hml, hown, hts, hK, hA, hlocks, hZ⟩ := id CX
  unfold f_T_hold at hF
  refine lv_aload_n hx hb kd_T_hold_0 rfl (lv_at hl 0 rfl) ?_
  refine va_get (D := (dC, dI)) (ci := 4) (v := .ref (a 2)) (C := "FileTree") (T := ft_T) (N := 5) hx hb hts fi_T hown hK hP 0 rfl rfl 1 (by decide) (hts _ q_208) (fun _ h9 => h9) rfl kd_T_hold_1 ?_
  refine lv_iload_n hx hb kd_T_hold_4 rfl (lv_at hl 1 rfl) ?_
  obtain ⟨r1, e_r1, hF⟩ := fb_ob hF
  refine fb_callV (As := [.int x1]) (rest := []) ⟨hx, hb, hml, hown, hts⟩ zX_mv hZ hK hP hD hS hA (c_I_inUse l dC dI dA a z x1 st r1 e_r1) (cwV 1 hts (gd_V q_240 ko_I_inUse) rfl rfl rfl kh_I_inUse ⟨Nat.le_of_ble_eq_true rfl, Nat.le_of_ble_eq_true rfl⟩) 2 2 rfl rfl rfl rfl hl.1 rfl (Nat.le_of_ble_eq_true rfl) kd_T_hold_5 ⟨Nat.zero_le _, Nat.zero_le _⟩ (fun H locs hP hD hS => ?_)
  refine W.eq (g2 := F0 m 8 ls [.int r1.1]) rfl ?_
  refine lv_if_ne (tgt := 13) hx hb kd_T_hold_8 (by decide) (fun c2 => ?_) (fun c2 => ?_)
  · rw [if_neg c2] at hF
    refine lv_aload_n hx hb kd_T_hold_13 rfl (lv_at hl 0 rfl) ?_
    refine va_get (D := (dC, dI)) (ci := 4) (v := .ref (a 2)) (C := "FileTree") (T := ft_T) (N := 5) hx hb hts fi_T hown hK hP 0 rfl rfl 1 (by decide) (hts _ q_208) (fun _ h9 => h9) rfl kd_T_hold_14 ?_
    refine lv_iload_n hx hb kd_T_hold_17 rfl (lv_at hl 1 rfl) ?_
    refine lv_iconst (v := 1) hx hb kd_T_hold_18 (by decide) ?_
    obtain ⟨r3, e_r3, hF⟩ := fb_ob hF
    refine fb_callV (As := [.int x1, .int (1 : Int32)]) (rest := []) ⟨hx, hb, hml, hown, hts⟩ zX_mv hZ hK hP hD hS hA (c_I_addHeld l dC dI dA a z x1 (1 : Int32) r1.2 r3 e_r3) (cwV 2 hts (gd_V q_355 ko_I_addHeld) rfl rfl rfl kh_I_addHeld ⟨Nat.le_of_ble_eq_true rfl, Nat.le_of_ble_eq_true rfl⟩) 2 2 rfl rfl rfl rfl hl.1 rfl (Nat.le_of_ble_eq_true rfl) kd_T_hold_19 ⟨Nat.zero_le _, Nat.zero_le _⟩ (fun H locs hP hD hS => ?_)
    refine W.eq (g2 := F0 m 22 ls []) rfl ?_
    refine lv_iconst (v := 1) hx hb kd_T_hold_22 (by decide) ?_
    exact fb_rb (o := o) hx hb hr hlocks hK hP hD hS hF kd_T_hold_23
  · rw [if_pos c2] at hF
    refine lv_iconst (v := 0) hx hb kd_T_hold_11 (by decide) ?_
    exact fb_rb (o := o) hx hb hr hlocks hK hP hD hS hF kd_T_hold_12
theorem c_T_hold (l : Launch) (dC : Nat → ClassId) (dI : Nat → Nat → Nat) (dA : Nat → ClassId) (a : Nat → Nat) (z : Nat → Nat) (x1 : Int32) (st : fb_S) (o : Int32 × fb_S) (h : f_T_hold x1 st = some o) : fb_M l ky_T_hold kw_T_hold rm_T_hold (dC, dI) vcl (tX dA) (wX dA a) (zX z) [.ref (a 0), .int x1] (some (.int o.1)) st o.2 := fb_enter (by decide) rfl (Nat.le_of_ble_eq_true rfl) (fun p e s m below meth c A CX hP hD hS ls hl => w_T_hold_0 CX o x1 st h s.heap [] hP hD hS ls hl)
abbrev rm_T_leave : Room := { frames := 5, cells := 0, slots := 0, locals := 114 }
def f_T_leave (x1 : Int32) (st : fb_S) : Option (Int32 × fb_S) := (f_I_heldOf x1 st).bind fun r1 => (if (0 : Int32) < r1.1 then (f_I_addHeld x1 (-1 : Int32) r1.2).bind fun r3 => (f_I_freeIfLeft x1 r3.2).bind fun r4 => fb_rz (1 : Int32) r4.2 else fb_rz (0 : Int32) r1.2)
set_option maxHeartbeats 4000000 in
set_option maxRecDepth 100000 in
theorem w_T_leave_0 {p : Program} {l : Launch} {e : Env} {s : State} {m : MethodId} {args : Array Value} {below : List Frame} {meth : Method} {c : Code} {A : Nat → Prop} {dC : Nat → ClassId} {dI : Nat → Nat → Nat} {dA : Nat → ClassId} {a : Nat → Nat} {z : Nat → Nat} (CX : fb_C p s m args meth c kc_T_leave (some .boolean) 2 "FileTree" (dC, dI) vcl (tX dA) A (zX z)) (o : Int32 × fb_S) (x1 : Int32) (st : fb_S) (hF : f_T_leave x1 st = some o) : fb_G p l e (headSpec kw_T_leave rm_T_leave).room s m args below meth c (dC, dI) vcl (tX dA) (wX dA a) A (some (.int o.1)) o.2 0 2 [(0, .ref (a 0)), (1, .int x1)] [] st := by
  intro H locs hP hD hS ls hl
  obtain ⟨hx, hb, hr, hml, hown, hts, hK, hA, hlocks, hZ⟩ := id CX
  unfold f_T_leave at hF
  refine lv_aload_n hx hb kd_T_leave_0 rfl (lv_at hl 0 rfl) ?_
  refine va_get (D := (dC, dI)) (ci := 4) (v := .ref (a 2)) (C := "FileTree") (T := ft_T) (N := 5) hx hb hts fi_T hown hK hP 0 rfl rfl 1 (by decide) (hts _ q_208) (fun _ h9 => h9) rfl kd_T_leave_1 ?_
  refine lv_iload_n hx hb kd_T_leave_4 rfl (lv_at hl 1 rfl) ?_
  obtain ⟨r1, e_r1, hF⟩ := fb_ob hF
  refine fb_callV (As := [.int x1]) (rest := []) ⟨hx, hb, hml, hown, hts⟩ zX_mv hZ hK hP hD hS hA (c_I_heldOf l dC dI dA a z x1 st r1 e_r1) (cwV 1 hts (gd_V q_363 ko_I_heldOf) rfl rfl rfl kh_I_heldOf ⟨Nat.le_of_ble_eq_true rfl, Nat.le_of_ble_eq_true rfl⟩) 2 2 rfl rfl rfl rfl hl.1 rfl (Nat.le_of_ble_eq_true rfl) kd_T_leave_5 ⟨Nat.zero_le _, Nat.zero_le _⟩ (fun H locs hP hD hS => ?_)
  refine W.eq (g2 := F0 m 8 ls [.int r1.1]) rfl ?_
  refine lv_if_gt (tgt := 13) hx hb kd_T_leave_8 (by decide) (fun c2 => ?_) (fun c2 => ?_)
  · rw [if_pos c2] at hF
    refine lv_aload_n hx hb kd_T_leave_13 rfl (lv_at hl 0 rfl) ?_
    refine va_get (D := (dC, dI)) (ci := 4) (v := .ref (a 2)) (C := "FileTree") (T := ft_T) (N := 5) hx hb hts fi_T hown hK hP 0 rfl rfl 1 (by decide) (hts _ q_208) (fun _ h9 => h9) rfl kd_T_leave_14 ?_
    refine lv_iload_n hx hb kd_T_leave_17 rfl (lv_at hl 1 rfl) ?_
    refine lv_iconst (v := (-1)) hx hb kd_T_leave_18 (by decide) ?_
    obtain ⟨r3, e_r3, hF⟩ := fb_ob hF
    refine fb_callV (As := [.int x1, .int (-1 : Int32)]) (rest := []) ⟨hx, hb, hml, hown, hts⟩ zX_mv hZ hK hP hD hS hA (c_I_addHeld l dC dI dA a z x1 (-1 : Int32) r1.2 r3 e_r3) (cwV 2 hts (gd_V q_355 ko_I_addHeld) rfl rfl rfl kh_I_addHeld ⟨Nat.le_of_ble_eq_true rfl, Nat.le_of_ble_eq_true rfl⟩) 2 2 rfl rfl rfl rfl hl.1 rfl (Nat.le_of_ble_eq_true rfl) kd_T_leave_19 ⟨Nat.zero_le _, Nat.zero_le _⟩ (fun H locs hP hD hS => ?_)
    refine W.eq (g2 := F0 m 22 ls []) rfl ?_
    refine lv_aload_n hx hb kd_T_leave_22 rfl (lv_at hl 0 rfl) ?_
    refine va_get (D := (dC, dI)) (ci := 4) (v := .ref (a 2)) (C := "FileTree") (T := ft_T) (N := 5) hx hb hts fi_T hown hK hP 0 rfl rfl 1 (by decide) (hts _ q_208) (fun _ h9 => h9) rfl kd_T_leave_23 ?_
    refine lv_iload_n hx hb kd_T_leave_26 rfl (lv_at hl 1 rfl) ?_
    obtain ⟨r4, e_r4, hF⟩ := fb_ob hF
    refine fb_callV (As := [.int x1]) (rest := []) ⟨hx, hb, hml, hown, hts⟩ zX_mv hZ hK hP hD hS hA (c_I_freeIfLeft l dC dI dA a z x1 r3.2 r4 e_r4) (cwV 1 hts (gd_V q_334 ko_I_freeIfLeft) rfl rfl rfl kh_I_freeIfLeft ⟨Nat.le_of_ble_eq_true rfl, Nat.le_of_ble_eq_true rfl⟩) 2 2 rfl rfl rfl rfl hl.1 rfl (Nat.le_of_ble_eq_true rfl) kd_T_leave_27 ⟨Nat.zero_le _, Nat.zero_le _⟩ (fun H locs hP hD hS => ?_)
    refine W.eq (g2 := F0 m 30 ls [.int r4.1]) rfl ?_
    refine lv_pop hx hb kd_T_leave_30 rfl ?_
    refine lv_iconst (v := 1) hx hb kd_T_leave_31 (by decide) ?_
    exact fb_rb (o := o) hx hb hr hlocks hK hP hD hS hF kd_T_leave_32
  · rw [if_neg c2] at hF
    refine lv_iconst (v := 0) hx hb kd_T_leave_11 (by decide) ?_
    exact fb_rb (o := o) hx hb hr hlocks hK hP hD hS hF kd_T_leave_12
theorem c_T_leave (l : Launch) (dC : Nat → ClassId) (dI : Nat → Nat → Nat) (dA : Nat → ClassId) (a : Nat → Nat) (z : Nat → Nat) (x1 : Int32) (st : fb_S) (o : Int32 × fb_S) (h : f_T_leave x1 st = some o) : fb_M l ky_T_leave kw_T_leave rm_T_leave (dC, dI) vcl (tX dA) (wX dA a) (zX z) [.ref (a 0), .int x1] (some (.int o.1)) st o.2 := fb_enter (by decide) rfl (Nat.le_of_ble_eq_true rfl) (fun p e s m below meth c A CX hP hD hS ls hl => w_T_leave_0 CX o x1 st h s.heap [] hP hD hS ls hl)
abbrev rm_I_bring_buffer : Room := { frames := 3, cells := 0, slots := 0, locals := 68 }
def b_I_bring_buffer_69 (k18 : Int32 → Int32 → Int32 → Int32 → fb_S → Option (Int32 × fb_S)) (k69 : Int32 → Int32 → Int32 → Int32 → Int32 → Int32 → Int32 → Int32 → fb_S → Option (Int32 × fb_S)) (x1 : Int32) (x2 : Int32) (x5 : Int32) (x6 : Int32) (x7 : Int32) (x8 : Int32) (x9 : Int32) (x10 : Int32) (st : fb_S) : Option (Int32 × fb_S) := (if x8 ≤ x10 then k18 x1 x2 x5 (x6 + (1 : Int32)) st else (f_K_partAt ((x9 + x10) - x7) (255 : Int32) st).bind fun r2 => (fb_st r2.2 5 3072 (x10 - x2) (fb_b (fb_b r2.1))).bind fun s3 => k69 x1 x2 x5 x6 x7 x8 x9 (x10 + (1 : Int32)) s3)
set_option maxHeartbeats 4000000 in
set_option maxRecDepth 100000 in
theorem w_I_bring_buffer_69 {p : Program} {l : Launch} {e : Env} {s : State} {m : MethodId} {args : Array Value} {below : List Frame} {meth : Method} {c : Code} {A : Nat → Prop} {dC : Nat → ClassId} {dI : Nat → Nat → Nat} {dA : Nat → ClassId} {a : Nat → Nat} {z : Nat → Nat} (CX : fb_C p s m args meth c kc_I_bring (some .int) 11 "FileTree$Inodes" (dC, dI) vcl (tX dA) A (zX z)) (o : Int32 × fb_S) (k18 : Int32 → Int32 → Int32 → Int32 → fb_S → Option (Int32 × fb_S)) (hk18 : ∀ (x1 : Int32) (x2 : Int32) (x5 : Int32) (x6 : Int32) (st : fb_S), k18 x1 x2 x5 x6 st = some o → fb_G p l e (headSpec kw_I_bring rm_I_bring_buffer).room s m args below meth c (dC, dI) vcl (tX dA) (wX dA a) A (some (.int o.1)) o.2 18 11 [(0, .ref (a 2)), (1, .int x1), (2, .int x2), (4, .ref (a 10)), (5, .int x5), (6, .int x6)] [] st) (k69 : Int32 → Int32 → Int32 → Int32 → Int32 → Int32 → Int32 → Int32 → fb_S → Option (Int32 × fb_S)) (hk69 : ∀ (x1 : Int32) (x2 : Int32) (x5 : Int32) (x6 : Int32) (x7 : Int32) (x8 : Int32) (x9 : Int32) (x10 : Int32) (st : fb_S), k69 x1 x2 x5 x6 x7 x8 x9 x10 st = some o → fb_G p l e (headSpec kw_I_bring rm_I_bring_buffer).room s m args below meth c (dC, dI) vcl (tX dA) (wX dA a) A (some (.int o.1)) o.2 69 11 [(0, .ref (a 2)), (1, .int x1), (2, .int x2), (4, .ref (a 10)), (5, .int x5), (6, .int x6), (7, .int x7), (8, .int x8), (9, .int x9), (10, .int x10)] [] st) (x1 : Int32) (x2 : Int32) (x5 : Int32) (x6 : Int32) (x7 : Int32) (x8 : Int32) (x9 : Int32) (x10 : Int32) (st : fb_S) (hF : b_I_bring_buffer_69 k18 k69 x1 x2 x5 x6 x7 x8 x9 x10 st = some o) : fb_G p l e (headSpec kw_I_bring rm_I_bring_buffer).room s m args below meth c (dC, dI) vcl (tX dA) (wX dA a) A (some (.int o.1)) o.2 69 11 [(0, .ref (a 2)), (1, .int x1), (2, .int x2), (4, .ref (a 10)), (5, .int x5), (6, .int x6), (7, .int x7), (8, .int x8), (9, .int x9), (10, .int x10)] [] st := by
  intro H locs hP hD hS ls hl
  obtain ⟨hx, hb, hr, hml, hown, hts, hK, hA, hlocks, hZ⟩ := id CX
  unfold b_I_bring_buffer_69 at hF
  refine lv_iload hx hb kd_I_bring_69 (lv_at hl 9 rfl) ?_
  refine lv_iload hx hb kd_I_bring_71 (lv_at hl 7 rfl) ?_
  refine lv_icmp_ge (tgt := 108) hx hb kd_I_bring_73 (by decide) (fun c1 => ?_) (fun c1 => ?_)
  · rw [if_pos c1] at hF
    refine lv_iinc (v := x6 + (1 : Int32)) (lv' := [(6, .int (x6 + (1 : Int32))), (0, .ref (a 2)), (1, .int x1), (2, .int x2), (4, .ref (a 10)), (5, .int x5), (7, .int x7), (8, .int x8), (9, .int x9), (10, .int x10)]) hx hb kd_I_bring_108 hl (k := 5) rfl rfl (by decide) rfl (fun ls hl => ?_)
    refine lv_goto (tgt := 18) hx hb kd_I_bring_111 (by decide) ?_
    exact hk18 x1 x2 x5 (x6 + (1 : Int32)) st hF H locs hP hD hS ls (lv_sub hl [1, 2, 3, 4, 5, 0] rfl)
  · rw [if_neg c1] at hF
    refine lv_aload hx hb kd_I_bring_76 (lv_at hl 3 rfl) ?_
    refine lv_iload hx hb kd_I_bring_78 (lv_at hl 9 rfl) ?_
    refine lv_iload_n hx hb kd_I_bring_80 rfl (lv_at hl 2 rfl) ?_
    refine lv_isub hx hb kd_I_bring_81 ?_
    refine lv_aload_n hx hb kd_I_bring_82 rfl (lv_at hl 0 rfl) ?_
    refine va_get (D := (dC, dI)) (ci := 2) (v := .ref (a 3)) (C := "FileTree$Inodes") (T := ft_I) (N := 2) hx hb hts fi_I hown hK hP 2 rfl rfl 0 (by decide) (hts _ q_41) (fun _ h9 => h9) rfl kd_I_bring_83 ?_
    refine lv_iload hx hb kd_I_bring_86 (lv_at hl 8 rfl) ?_
    refine lv_iload hx hb kd_I_bring_88 (lv_at hl 9 rfl) ?_
    refine lv_iadd hx hb kd_I_bring_90 ?_
    refine lv_iload hx hb kd_I_bring_91 (lv_at hl 6 rfl) ?_
    refine lv_isub hx hb kd_I_bring_93 ?_
    refine lv_sipush (v := 255) hx hb kd_I_bring_94 (by decide) ?_
    obtain ⟨r2, e_r2, hF⟩ := fb_ob hF
    refine fb_callV (As := [.int ((x9 + x10) - x7), .int (255 : Int32)]) (rest := [.int (x10 - x2), .ref (a 10)]) ⟨hx, hb, hml, hown, hts⟩ zX_mv hZ hK hP hD hS hA (c_K_partAt l dC dI dA a z ((x9 + x10) - x7) (255 : Int32) st r2 e_r2) (cwV 2 hts (gd_V q_141 ko_K_partAt) rfl rfl rfl kh_K_partAt ⟨Nat.le_of_ble_eq_true rfl, Nat.le_of_ble_eq_true rfl⟩) 1 3 rfl rfl rfl rfl hl.1 rfl (Nat.le_of_ble_eq_true rfl) kd_I_bring_97 ⟨Nat.zero_le _, Nat.zero_le _⟩ (fun H locs hP hD hS => ?_)
    refine W.eq (g2 := F0 m 100 ls [.int r2.1, .int (x10 - x2), .ref (a 10)]) rfl ?_
    refine lv_i2b (v := fb_b r2.1) hx hb kd_I_bring_100 rfl ?_
    obtain ⟨s3, e_s3, hF⟩ := fb_ob hF
    refine fb_bast (wx := (wX dA a)) (k := 5) hx hb hK hP hD hS 10 1 rfl rfl e_s3 (fun _ => rfl) kd_I_bring_101 (fun H locs hP hD hS => ?_)
    refine lv_iinc (v := x10 + (1 : Int32)) (lv' := [(10, .int (x10 + (1 : Int32))), (0, .ref (a 2)), (1, .int x1), (2, .int x2), (4, .ref (a 10)), (5, .int x5), (6, .int x6), (7, .int x7), (8, .int x8), (9, .int x9)]) hx hb kd_I_bring_102 hl (k := 9) rfl rfl (by decide) rfl (fun ls hl => ?_)
    refine lv_goto (tgt := 69) hx hb kd_I_bring_105 (by decide) ?_
    exact hk69 x1 x2 x5 x6 x7 x8 x9 (x10 + (1 : Int32)) s3 hF H locs hP hD hS ls (lv_sub hl [1, 2, 3, 4, 5, 6, 7, 8, 9, 0] rfl)
def l_I_bring_buffer_69 (k18 : Int32 → Int32 → Int32 → Int32 → fb_S → Option (Int32 × fb_S)) : Nat → Int32 → Int32 → Int32 → Int32 → Int32 → Int32 → Int32 → Int32 → fb_S → Option (Int32 × fb_S)
  | 0 => fun _ _ _ _ _ _ _ _ _ => none
  | n + 1 => b_I_bring_buffer_69 k18 (l_I_bring_buffer_69 k18 n)
theorem v_I_bring_buffer_69 {p : Program} {l : Launch} {e : Env} {s : State} {m : MethodId} {args : Array Value} {below : List Frame} {meth : Method} {c : Code} {A : Nat → Prop} {dC : Nat → ClassId} {dI : Nat → Nat → Nat} {dA : Nat → ClassId} {a : Nat → Nat} {z : Nat → Nat} (CX : fb_C p s m args meth c kc_I_bring (some .int) 11 "FileTree$Inodes" (dC, dI) vcl (tX dA) A (zX z)) (o : Int32 × fb_S) (k18 : Int32 → Int32 → Int32 → Int32 → fb_S → Option (Int32 × fb_S)) (hk18 : ∀ (x1 : Int32) (x2 : Int32) (x5 : Int32) (x6 : Int32) (st : fb_S), k18 x1 x2 x5 x6 st = some o → fb_G p l e (headSpec kw_I_bring rm_I_bring_buffer).room s m args below meth c (dC, dI) vcl (tX dA) (wX dA a) A (some (.int o.1)) o.2 18 11 [(0, .ref (a 2)), (1, .int x1), (2, .int x2), (4, .ref (a 10)), (5, .int x5), (6, .int x6)] [] st) (n : Nat) : ∀ (x1 : Int32) (x2 : Int32) (x5 : Int32) (x6 : Int32) (x7 : Int32) (x8 : Int32) (x9 : Int32) (x10 : Int32) (st : fb_S), l_I_bring_buffer_69 k18 n x1 x2 x5 x6 x7 x8 x9 x10 st = some o → fb_G p l e (headSpec kw_I_bring rm_I_bring_buffer).room s m args below meth c (dC, dI) vcl (tX dA) (wX dA a) A (some (.int o.1)) o.2 69 11 [(0, .ref (a 2)), (1, .int x1), (2, .int x2), (4, .ref (a 10)), (5, .int x5), (6, .int x6), (7, .int x7), (8, .int x8), (9, .int x9), (10, .int x10)] [] st := by
  induction n with
  | zero => intro x1 x2 x5 x6 x7 x8 x9 x10 st hF; cases hF
  | succ n ih => intro x1 x2 x5 x6 x7 x8 x9 x10 st hF; exact w_I_bring_buffer_69 CX o k18 hk18 (l_I_bring_buffer_69 k18 n) ih x1 x2 x5 x6 x7 x8 x9 x10 st hF
def b_I_bring_buffer_18 (k18 : Int32 → Int32 → Int32 → Int32 → fb_S → Option (Int32 × fb_S)) (x1 : Int32) (x2 : Int32) (x5 : Int32) (x6 : Int32) (st : fb_S) : Option (Int32 × fb_S) := (if x5 ≤ (x6 * (1024 : Int32)) then some (x5 - x2, st) else (f_I_placeOfByte x1 (fb_max x2 (x6 * (1024 : Int32))) st).bind fun r2 => l_I_bring_buffer_69 k18 fb_n x1 x2 x5 x6 (fb_max x2 (x6 * (1024 : Int32))) (fb_min x5 ((x6 + (1 : Int32)) * (1024 : Int32))) r2.1 (fb_max x2 (x6 * (1024 : Int32))) r2.2)
set_option maxHeartbeats 4000000 in
set_option maxRecDepth 100000 in
theorem w_I_bring_buffer_18 {p : Program} {l : Launch} {e : Env} {s : State} {m : MethodId} {args : Array Value} {below : List Frame} {meth : Method} {c : Code} {A : Nat → Prop} {dC : Nat → ClassId} {dI : Nat → Nat → Nat} {dA : Nat → ClassId} {a : Nat → Nat} {z : Nat → Nat} (CX : fb_C p s m args meth c kc_I_bring (some .int) 11 "FileTree$Inodes" (dC, dI) vcl (tX dA) A (zX z)) (o : Int32 × fb_S) (k18 : Int32 → Int32 → Int32 → Int32 → fb_S → Option (Int32 × fb_S)) (hk18 : ∀ (x1 : Int32) (x2 : Int32) (x5 : Int32) (x6 : Int32) (st : fb_S), k18 x1 x2 x5 x6 st = some o → fb_G p l e (headSpec kw_I_bring rm_I_bring_buffer).room s m args below meth c (dC, dI) vcl (tX dA) (wX dA a) A (some (.int o.1)) o.2 18 11 [(0, .ref (a 2)), (1, .int x1), (2, .int x2), (4, .ref (a 10)), (5, .int x5), (6, .int x6)] [] st) (x1 : Int32) (x2 : Int32) (x5 : Int32) (x6 : Int32) (st : fb_S) (hF : b_I_bring_buffer_18 k18 x1 x2 x5 x6 st = some o) : fb_G p l e (headSpec kw_I_bring rm_I_bring_buffer).room s m args below meth c (dC, dI) vcl (tX dA) (wX dA a) A (some (.int o.1)) o.2 18 11 [(0, .ref (a 2)), (1, .int x1), (2, .int x2), (4, .ref (a 10)), (5, .int x5), (6, .int x6)] [] st := by
  intro H locs hP hD hS ls hl
  obtain ⟨hx, hb, hr, hml, hown, hts, hK, hA, hlocks, hZ⟩ := id CX
  unfold b_I_bring_buffer_18 at hF
  refine lv_iload hx hb kd_I_bring_18 (lv_at hl 5 rfl) ?_
  refine lv_sipush (v := 1024) hx hb kd_I_bring_20 (by decide) ?_
  refine lv_imul hx hb kd_I_bring_23 ?_
  refine lv_iload hx hb kd_I_bring_24 (lv_at hl 4 rfl) ?_
  refine lv_icmp_ge (tgt := 114) hx hb kd_I_bring_26 (by decide) (fun c1 => ?_) (fun c1 => ?_)
  · rw [if_pos c1] at hF
    refine lv_iload hx hb kd_I_bring_114 (lv_at hl 4 rfl) ?_
    refine lv_iload_n hx hb kd_I_bring_116 rfl (lv_at hl 2 rfl) ?_
    refine lv_isub hx hb kd_I_bring_117 ?_
    exact fb_ri (o := o) hx hb hr hlocks hK hP hD hS hF kd_I_bring_118
  · rw [if_neg c1] at hF
    refine lv_iload_n hx hb kd_I_bring_29 rfl (lv_at hl 2 rfl) ?_
    refine lv_iload hx hb kd_I_bring_30 (lv_at hl 5 rfl) ?_
    refine lv_sipush (v := 1024) hx hb kd_I_bring_32 (by decide) ?_
    refine lv_imul hx hb kd_I_bring_35 ?_
    refine va_mmax hx hb (by rw [hml]; exact hl.1.symm) hown (hts _ q_377) (hts _ qm_max_s) (hts _ qm_i) (hts _ qm_max_c) (Nat.le_of_ble_eq_true rfl) (Nat.le_of_ble_eq_true rfl) (Nat.zero_le _) (Nat.zero_le _) kd_I_bring_36 ?_
    refine W.eq (g2 := F0 m 39 ls (.int (fb_max x2 (x6 * (1024 : Int32))) :: [])) rfl ?_
    refine lv_istore (lv' := [(7, .int (fb_max x2 (x6 * (1024 : Int32)))), (0, .ref (a 2)), (1, .int x1), (2, .int x2), (4, .ref (a 10)), (5, .int x5), (6, .int x6)]) hx hb kd_I_bring_39 hl (by decide) rfl (fun ls hl => ?_)
    refine lv_iload hx hb kd_I_bring_41 (lv_at hl 5 rfl) ?_
    refine lv_iload hx hb kd_I_bring_43 (lv_at hl 6 rfl) ?_
    refine lv_iconst (v := 1) hx hb kd_I_bring_45 (by decide) ?_
    refine lv_iadd hx hb kd_I_bring_46 ?_
    refine lv_sipush (v := 1024) hx hb kd_I_bring_47 (by decide) ?_
    refine lv_imul hx hb kd_I_bring_50 ?_
    refine va_mmin hx hb (by rw [hml]; exact hl.1.symm) hown (hts _ q_376) (hts _ qm_min_s) (hts _ qm_i) (hts _ qm_min_c) (Nat.le_of_ble_eq_true rfl) (Nat.le_of_ble_eq_true rfl) (Nat.zero_le _) (Nat.zero_le _) kd_I_bring_51 ?_
    refine W.eq (g2 := F0 m 54 ls (.int (fb_min x5 ((x6 + (1 : Int32)) * (1024 : Int32))) :: [])) rfl ?_
    refine lv_istore (lv' := [(8, .int (fb_min x5 ((x6 + (1 : Int32)) * (1024 : Int32)))), (7, .int (fb_max x2 (x6 * (1024 : Int32)))), (0, .ref (a 2)), (1, .int x1), (2, .int x2), (4, .ref (a 10)), (5, .int x5), (6, .int x6)]) hx hb kd_I_bring_54 hl (by decide) rfl (fun ls hl => ?_)
    refine lv_aload_n hx hb kd_I_bring_56 rfl (lv_at hl 2 rfl) ?_
    refine lv_iload_n hx hb kd_I_bring_57 rfl (lv_at hl 3 rfl) ?_
    refine lv_iload hx hb kd_I_bring_58 (lv_at hl 1 rfl) ?_
    obtain ⟨r2, e_r2, hF⟩ := fb_ob hF
    refine fb_callV (As := [.int x1, .int (fb_max x2 (x6 * (1024 : Int32)))]) (rest := []) ⟨hx, hb, hml, hown, hts⟩ zX_mv hZ hK hP hD hS hA (c_I_placeOfByte l dC dI dA a z x1 (fb_max x2 (x6 * (1024 : Int32))) st r2 e_r2) (cwV 2 hts (gd_V q_380 ko_I_placeOfByte) rfl rfl rfl kh_I_placeOfByte ⟨Nat.le_of_ble_eq_true rfl, Nat.le_of_ble_eq_true rfl⟩) 2 2 rfl rfl rfl rfl hl.1 rfl (Nat.le_of_ble_eq_true rfl) kd_I_bring_60 ⟨Nat.zero_le _, Nat.zero_le _⟩ (fun H locs hP hD hS => ?_)
    refine W.eq (g2 := F0 m 63 ls [.int r2.1]) rfl ?_
    refine lv_istore (lv' := [(9, .int r2.1), (8, .int (fb_min x5 ((x6 + (1 : Int32)) * (1024 : Int32)))), (7, .int (fb_max x2 (x6 * (1024 : Int32)))), (0, .ref (a 2)), (1, .int x1), (2, .int x2), (4, .ref (a 10)), (5, .int x5), (6, .int x6)]) hx hb kd_I_bring_63 hl (by decide) rfl (fun ls hl => ?_)
    refine lv_iload hx hb kd_I_bring_65 (lv_at hl 2 rfl) ?_
    refine lv_istore (lv' := [(10, .int (fb_max x2 (x6 * (1024 : Int32)))), (9, .int r2.1), (8, .int (fb_min x5 ((x6 + (1 : Int32)) * (1024 : Int32)))), (7, .int (fb_max x2 (x6 * (1024 : Int32)))), (0, .ref (a 2)), (1, .int x1), (2, .int x2), (4, .ref (a 10)), (5, .int x5), (6, .int x6)]) hx hb kd_I_bring_67 hl (by decide) rfl (fun ls hl => ?_)
    exact v_I_bring_buffer_69 CX o k18 hk18 fb_n x1 x2 x5 x6 (fb_max x2 (x6 * (1024 : Int32))) (fb_min x5 ((x6 + (1 : Int32)) * (1024 : Int32))) r2.1 (fb_max x2 (x6 * (1024 : Int32))) r2.2 hF H locs hP hD hS ls (lv_sub hl [4, 5, 6, 7, 8, 9, 3, 2, 1, 0] rfl)
def l_I_bring_buffer_18 : Nat → Int32 → Int32 → Int32 → Int32 → fb_S → Option (Int32 × fb_S)
  | 0 => fun _ _ _ _ _ => none
  | n + 1 => b_I_bring_buffer_18 (l_I_bring_buffer_18 n)
theorem v_I_bring_buffer_18 {p : Program} {l : Launch} {e : Env} {s : State} {m : MethodId} {args : Array Value} {below : List Frame} {meth : Method} {c : Code} {A : Nat → Prop} {dC : Nat → ClassId} {dI : Nat → Nat → Nat} {dA : Nat → ClassId} {a : Nat → Nat} {z : Nat → Nat} (CX : fb_C p s m args meth c kc_I_bring (some .int) 11 "FileTree$Inodes" (dC, dI) vcl (tX dA) A (zX z)) (o : Int32 × fb_S) (n : Nat) : ∀ (x1 : Int32) (x2 : Int32) (x5 : Int32) (x6 : Int32) (st : fb_S), l_I_bring_buffer_18 n x1 x2 x5 x6 st = some o → fb_G p l e (headSpec kw_I_bring rm_I_bring_buffer).room s m args below meth c (dC, dI) vcl (tX dA) (wX dA a) A (some (.int o.1)) o.2 18 11 [(0, .ref (a 2)), (1, .int x1), (2, .int x2), (4, .ref (a 10)), (5, .int x5), (6, .int x6)] [] st := by
  induction n with
  | zero => intro x1 x2 x5 x6 st hF; cases hF
  | succ n ih => intro x1 x2 x5 x6 st hF; exact w_I_bring_buffer_18 CX o (l_I_bring_buffer_18 n) ih x1 x2 x5 x6 st hF
def f_I_bring_buffer (x1 : Int32) (x2 : Int32) (x3 : Int32) (st : fb_S) : Option (Int32 × fb_S) := l_I_bring_buffer_18 fb_n x1 x2 (x2 + (fb_min x3 (3072 : Int32))) (x2 / (1024 : Int32)) st
set_option maxHeartbeats 4000000 in
set_option maxRecDepth 100000 in
theorem w_I_bring_buffer_0 {p : Program} {l : Launch} {e : Env} {s : State} {m : MethodId} {args : Array Value} {below : List Frame} {meth : Method} {c : Code} {A : Nat → Prop} {dC : Nat → ClassId} {dI : Nat → Nat → Nat} {dA : Nat → ClassId} {a : Nat → Nat} {z : Nat → Nat} (CX : fb_C p s m args meth c kc_I_bring (some .int) 11 "FileTree$Inodes" (dC, dI) vcl (tX dA) A (zX z)) (o : Int32 × fb_S) (x1 : Int32) (x2 : Int32) (x3 : Int32) (st : fb_S) (hF : f_I_bring_buffer x1 x2 x3 st = some o) : fb_G p l e (headSpec kw_I_bring rm_I_bring_buffer).room s m args below meth c (dC, dI) vcl (tX dA) (wX dA a) A (some (.int o.1)) o.2 0 11 [(0, .ref (a 2)), (1, .int x1), (2, .int x2), (3, .int x3), (4, .ref (a 10))] [] st := by
  intro H locs hP hD hS ls hl
  obtain ⟨hx, hb, hr, hml, hown, hts, hK, hA, hlocks, hZ⟩ := id CX
  unfold f_I_bring_buffer at hF
  refine lv_iload_n hx hb kd_I_bring_0 rfl (lv_at hl 2 rfl) ?_
  refine lv_iload_n hx hb kd_I_bring_1 rfl (lv_at hl 3 rfl) ?_
  refine lv_aload hx hb kd_I_bring_2 (lv_at hl 4 rfl) ?_
  refine va_alen (v := 3072) hx hb hK hP 10 1 rfl rfl rfl kd_I_bring_4 ?_
  refine va_mmin hx hb (by rw [hml]; exact hl.1.symm) hown (hts _ q_376) (hts _ qm_min_s) (hts _ qm_i) (hts _ qm_min_c) (Nat.le_of_ble_eq_true rfl) (Nat.le_of_ble_eq_true rfl) (Nat.zero_le _) (Nat.zero_le _) kd_I_bring_5 ?_
  refine W.eq (g2 := F0 m 8 ls (.int (fb_min x3 (3072 : Int32)) :: [.int x2])) rfl ?_
  refine lv_iadd hx hb kd_I_bring_8 ?_
  refine lv_istore (lv' := [(5, .int (x2 + (fb_min x3 (3072 : Int32)))), (0, .ref (a 2)), (1, .int x1), (2, .int x2), (3, .int x3), (4, .ref (a 10))]) hx hb kd_I_bring_9 hl (by decide) rfl (fun ls hl => ?_)
  refine lv_iload_n hx hb kd_I_bring_11 rfl (lv_at hl 3 rfl) ?_
  refine lv_sipush (v := 1024) hx hb kd_I_bring_12 (by decide) ?_
  refine lv_idiv hx hb kd_I_bring_15 (by decide) ?_
  refine lv_istore (lv' := [(6, .int (x2 / (1024 : Int32))), (5, .int (x2 + (fb_min x3 (3072 : Int32)))), (0, .ref (a 2)), (1, .int x1), (2, .int x2), (3, .int x3), (4, .ref (a 10))]) hx hb kd_I_bring_16 hl (by decide) rfl (fun ls hl => ?_)
  exact v_I_bring_buffer_18 CX o fb_n x1 x2 (x2 + (fb_min x3 (3072 : Int32))) (x2 / (1024 : Int32)) st hF H locs hP hD hS ls (lv_sub hl [2, 3, 4, 6, 1, 0] rfl)
theorem c_I_bring_buffer (l : Launch) (dC : Nat → ClassId) (dI : Nat → Nat → Nat) (dA : Nat → ClassId) (a : Nat → Nat) (z : Nat → Nat) (x1 : Int32) (x2 : Int32) (x3 : Int32) (st : fb_S) (o : Int32 × fb_S) (h : f_I_bring_buffer x1 x2 x3 st = some o) : fb_M l ky_I_bring kw_I_bring rm_I_bring_buffer (dC, dI) vcl (tX dA) (wX dA a) (zX z) [.ref (a 2), .int x1, .int x2, .int x3, .ref (a 10)] (some (.int o.1)) st o.2 := fb_enter (by decide) rfl (Nat.le_of_ble_eq_true rfl) (fun p e s m below meth c A CX hP hD hS ls hl => w_I_bring_buffer_0 CX o x1 x2 x3 st h s.heap [] hP hD hS ls hl)
abbrev rm_T_read : Room := { frames := 4, cells := 0, slots := 0, locals := 98 }
def f_T_read (x1 : Int32) (x2 : Int32) (x3 : Int32) (st : fb_S) : Option (Int32 × fb_S) := (f_I_kindOf x1 st).bind fun r1 => (if r1.1 = (0 : Int32) then some ((-1 : Int32), r1.2) else (if r1.1 = (3 : Int32) then some ((-1 : Int32), r1.2) else (if x2 < (0 : Int32) then some ((-1 : Int32), r1.2) else (if x3 < (0 : Int32) then some ((-1 : Int32), r1.2) else (if x3 ≤ (3072 : Int32) then (f_I_sizeOf x1 r1.2).bind fun r7 => (if x2 < r7.1 then (f_I_bring_buffer x1 x2 (fb_min x3 (r7.1 - x2)) r7.2).bind fun r9 => some (r9.1, r9.2) else some ((0 : Int32), r7.2)) else some ((-1 : Int32), r1.2))))))
set_option maxHeartbeats 4000000 in
set_option maxRecDepth 100000 in
theorem w_T_read_0 {p : Program} {l : Launch} {e : Env} {s : State} {m : MethodId} {args : Array Value} {below : List Frame} {meth : Method} {c : Code} {A : Nat → Prop} {dC : Nat → ClassId} {dI : Nat → Nat → Nat} {dA : Nat → ClassId} {a : Nat → Nat} {z : Nat → Nat} (CX : fb_C p s m args meth c kc_T_read (some .int) 6 "FileTree" (dC, dI) vcl (tX dA) A (zX z)) (o : Int32 × fb_S) (x1 : Int32) (x2 : Int32) (x3 : Int32) (st : fb_S) (hF : f_T_read x1 x2 x3 st = some o) : fb_G p l e (headSpec kw_T_read rm_T_read).room s m args below meth c (dC, dI) vcl (tX dA) (wX dA a) A (some (.int o.1)) o.2 0 6 [(0, .ref (a 0)), (1, .int x1), (2, .int x2), (3, .int x3)] [] st := by
  intro H locs hP hD hS ls hl
  obtain ⟨hx, hb, hr, hml, hown, hts, hK, hA, hlocks, hZ⟩ := id CX
  unfold f_T_read at hF
  refine lv_aload_n hx hb kd_T_read_0 rfl (lv_at hl 0 rfl) ?_
  refine va_get (D := (dC, dI)) (ci := 4) (v := .ref (a 2)) (C := "FileTree") (T := ft_T) (N := 5) hx hb hts fi_T hown hK hP 0 rfl rfl 1 (by decide) (hts _ q_208) (fun _ h9 => h9) rfl kd_T_read_1 ?_
  refine lv_iload_n hx hb kd_T_read_4 rfl (lv_at hl 1 rfl) ?_
  obtain ⟨r1, e_r1, hF⟩ := fb_ob hF
  refine fb_callV (As := [.int x1]) (rest := []) ⟨hx, hb, hml, hown, hts⟩ zX_mv hZ hK hP hD hS hA (c_I_kindOf l dC dI dA a z x1 st r1 e_r1) (cwV 1 hts (gd_V q_287 ko_I_kindOf) rfl rfl rfl kh_I_kindOf ⟨Nat.le_of_ble_eq_true rfl, Nat.le_of_ble_eq_true rfl⟩) 2 2 rfl rfl rfl rfl hl.1 rfl (Nat.le_of_ble_eq_true rfl) kd_T_read_5 ⟨Nat.zero_le _, Nat.zero_le _⟩ (fun H locs hP hD hS => ?_)
  refine W.eq (g2 := F0 m 8 ls [.int r1.1]) rfl ?_
  refine lv_istore (lv' := [(4, .int r1.1), (0, .ref (a 0)), (1, .int x1), (2, .int x2), (3, .int x3)]) hx hb kd_T_read_8 hl (by decide) rfl (fun ls hl => ?_)
  refine lv_iload hx hb kd_T_read_10 (lv_at hl 0 rfl) ?_
  refine lv_if_eq (tgt := 36) hx hb kd_T_read_12 (by decide) (fun c2 => ?_) (fun c2 => ?_)
  · rw [if_pos c2] at hF
    refine lv_iconst (v := (-1)) hx hb kd_T_read_36 (by decide) ?_
    exact fb_ri (o := o) hx hb hr hlocks hK hP hD hS hF kd_T_read_37
  · rw [if_neg c2] at hF
    refine lv_iload hx hb kd_T_read_15 (lv_at hl 0 rfl) ?_
    refine lv_iconst (v := 3) hx hb kd_T_read_17 (by decide) ?_
    refine lv_icmp_eq (tgt := 36) hx hb kd_T_read_18 (by decide) (fun c3 => ?_) (fun c3 => ?_)
    · rw [if_pos c3] at hF
      refine lv_iconst (v := (-1)) hx hb kd_T_read_36 (by decide) ?_
      exact fb_ri (o := o) hx hb hr hlocks hK hP hD hS hF kd_T_read_37
    · rw [if_neg c3] at hF
      refine lv_iload_n hx hb kd_T_read_21 rfl (lv_at hl 3 rfl) ?_
      refine lv_if_lt (tgt := 36) hx hb kd_T_read_22 (by decide) (fun c4 => ?_) (fun c4 => ?_)
      · rw [if_pos c4] at hF
        refine lv_iconst (v := (-1)) hx hb kd_T_read_36 (by decide) ?_
        exact fb_ri (o := o) hx hb hr hlocks hK hP hD hS hF kd_T_read_37
      · rw [if_neg c4] at hF
        refine lv_iload_n hx hb kd_T_read_25 rfl (lv_at hl 4 rfl) ?_
        refine lv_if_lt (tgt := 36) hx hb kd_T_read_26 (by decide) (fun c5 => ?_) (fun c5 => ?_)
        · rw [if_pos c5] at hF
          refine lv_iconst (v := (-1)) hx hb kd_T_read_36 (by decide) ?_
          exact fb_ri (o := o) hx hb hr hlocks hK hP hD hS hF kd_T_read_37
        · rw [if_neg c5] at hF
          refine lv_iload_n hx hb kd_T_read_29 rfl (lv_at hl 4 rfl) ?_
          refine lv_sipush (v := 3072) hx hb kd_T_read_30 (by decide) ?_
          refine lv_icmp_le (tgt := 38) hx hb kd_T_read_33 (by decide) (fun c6 => ?_) (fun c6 => ?_)
          · rw [if_pos c6] at hF
            refine lv_aload_n hx hb kd_T_read_38 rfl (lv_at hl 1 rfl) ?_
            refine va_get (D := (dC, dI)) (ci := 4) (v := .ref (a 2)) (C := "FileTree") (T := ft_T) (N := 5) hx hb hts fi_T hown hK hP 0 rfl rfl 1 (by decide) (hts _ q_208) (fun _ h9 => h9) rfl kd_T_read_39 ?_
            refine lv_iload_n hx hb kd_T_read_42 rfl (lv_at hl 2 rfl) ?_
            obtain ⟨r7, e_r7, hF⟩ := fb_ob hF
            refine fb_callV (As := [.int x1]) (rest := []) ⟨hx, hb, hml, hown, hts⟩ zX_mv hZ hK hP hD hS hA (c_I_sizeOf l dC dI dA a z x1 r1.2 r7 e_r7) (cwV 1 hts (gd_V q_368 ko_I_sizeOf) rfl rfl rfl kh_I_sizeOf ⟨Nat.le_of_ble_eq_true rfl, Nat.le_of_ble_eq_true rfl⟩) 2 2 rfl rfl rfl rfl hl.1 rfl (Nat.le_of_ble_eq_true rfl) kd_T_read_43 ⟨Nat.zero_le _, Nat.zero_le _⟩ (fun H locs hP hD hS => ?_)
            refine W.eq (g2 := F0 m 46 ls [.int r7.1]) rfl ?_
            refine lv_istore (lv' := [(5, .int r7.1), (4, .int r1.1), (0, .ref (a 0)), (1, .int x1), (2, .int x2), (3, .int x3)]) hx hb kd_T_read_46 hl (by decide) rfl (fun ls hl => ?_)
            refine lv_iload_n hx hb kd_T_read_48 rfl (lv_at hl 4 rfl) ?_
            refine lv_iload hx hb kd_T_read_49 (lv_at hl 0 rfl) ?_
            refine lv_icmp_lt (tgt := 56) hx hb kd_T_read_51 (by decide) (fun c8 => ?_) (fun c8 => ?_)
            · rw [if_pos c8] at hF
              refine lv_aload_n hx hb kd_T_read_56 rfl (lv_at hl 2 rfl) ?_
              refine va_get (D := (dC, dI)) (ci := 4) (v := .ref (a 2)) (C := "FileTree") (T := ft_T) (N := 5) hx hb hts fi_T hown hK hP 0 rfl rfl 1 (by decide) (hts _ q_208) (fun _ h9 => h9) rfl kd_T_read_57 ?_
              refine lv_iload_n hx hb kd_T_read_60 rfl (lv_at hl 3 rfl) ?_
              refine lv_iload_n hx hb kd_T_read_61 rfl (lv_at hl 4 rfl) ?_
              refine lv_iload_n hx hb kd_T_read_62 rfl (lv_at hl 5 rfl) ?_
              refine lv_iload hx hb kd_T_read_63 (lv_at hl 0 rfl) ?_
              refine lv_iload_n hx hb kd_T_read_65 rfl (lv_at hl 4 rfl) ?_
              refine lv_isub hx hb kd_T_read_66 ?_
              refine va_mmin hx hb (by rw [hml]; exact hl.1.symm) hown (hts _ q_369) (hts _ qm_min_s) (hts _ qm_i) (hts _ qm_min_c) (Nat.le_of_ble_eq_true rfl) (Nat.le_of_ble_eq_true rfl) (Nat.zero_le _) (Nat.zero_le _) kd_T_read_67 ?_
              refine W.eq (g2 := F0 m 70 ls (.int (fb_min x3 (r7.1 - x2)) :: [.int x2, .int x1, .ref (a 2)])) rfl ?_
              refine lv_aload_n hx hb kd_T_read_70 rfl (lv_at hl 2 rfl) ?_
              refine va_get (D := (dC, dI)) (ci := 4) (v := .ref (a 10)) (C := "FileTree") (T := ft_T) (N := 5) hx hb hts fi_T hown hK hP 0 rfl rfl 4 (by decide) (hts _ q_211) (fun _ h9 => h9) rfl kd_T_read_71 ?_
              obtain ⟨r9, e_r9, hF⟩ := fb_ob hF
              refine fb_callV (As := [.int x1, .int x2, .int (fb_min x3 (r7.1 - x2)), .ref (a 10)]) (rest := []) ⟨hx, hb, hml, hown, hts⟩ zX_mv hZ hK hP hD hS hA (c_I_bring_buffer l dC dI dA a z x1 x2 (fb_min x3 (r7.1 - x2)) r7.2 r9 e_r9) (cwV 4 hts (gd_V q_372 ko_I_bring) rfl rfl rfl kh_I_bring ⟨Nat.le_of_ble_eq_true rfl, Nat.le_of_ble_eq_true rfl⟩) 2 2 rfl rfl rfl rfl hl.1 rfl (Nat.le_of_ble_eq_true rfl) kd_T_read_74 ⟨Nat.zero_le _, Nat.zero_le _⟩ (fun H locs hP hD hS => ?_)
              refine W.eq (g2 := F0 m 77 ls [.int r9.1]) rfl ?_
              exact fb_ri (o := o) hx hb hr hlocks hK hP hD hS hF kd_T_read_77
            · rw [if_neg c8] at hF
              refine lv_iconst (v := 0) hx hb kd_T_read_54 (by decide) ?_
              exact fb_ri (o := o) hx hb hr hlocks hK hP hD hS hF kd_T_read_55
          · rw [if_neg c6] at hF
            refine lv_iconst (v := (-1)) hx hb kd_T_read_36 (by decide) ?_
            exact fb_ri (o := o) hx hb hr hlocks hK hP hD hS hF kd_T_read_37
theorem c_T_read (l : Launch) (dC : Nat → ClassId) (dI : Nat → Nat → Nat) (dA : Nat → ClassId) (a : Nat → Nat) (z : Nat → Nat) (x1 : Int32) (x2 : Int32) (x3 : Int32) (st : fb_S) (o : Int32 × fb_S) (h : f_T_read x1 x2 x3 st = some o) : fb_M l ky_T_read kw_T_read rm_T_read (dC, dI) vcl (tX dA) (wX dA a) (zX z) [.ref (a 0), .int x1, .int x2, .int x3] (some (.int o.1)) st o.2 := fb_enter (by decide) rfl (Nat.le_of_ble_eq_true rfl) (fun p e s m below meth c A CX hP hD hS ls hl => w_T_read_0 CX o x1 x2 x3 st h s.heap [] hP hD hS ls hl)
