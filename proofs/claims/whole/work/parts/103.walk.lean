abbrev rm_I_linksOf : Room := { frames := 1, cells := 0, slots := 0, locals := 24 }
def f_I_linksOf (x1 : Int32) (st : fb_S) : Option (Int32 × fb_S) := (f_I_isInode x1 st).bind fun r1 => (if r1.1 = (0 : Int32) then some ((0 : Int32), r1.2) else (f_I_placeOf x1 r1.2).bind fun r3 => (f_K_partAt (r3.1 + (6 : Int32)) (65535 : Int32) r3.2).bind fun r4 => some (r4.1, r4.2))
set_option maxHeartbeats 4000000 in
set_option maxRecDepth 100000 in
theorem w_I_linksOf_0 {p : Program} {l : Launch} {e : Env} {s : State} {m : MethodId} {args : Array Value} {below : List Frame} {meth : Method} {c : Code} {A : Nat → Prop} {dC : Nat → ClassId} {dI : Nat → Nat → Nat} {dA : Nat → ClassId} {a : Nat → Nat} {z : Nat → Nat} (CX : fb_C p s m args meth c kc_I_linksOf (some .int) 2 "FileTree$Inodes" (dC, dI) vcl (tX dA) A (zX z)) (o : Int32 × fb_S) (x1 : Int32) (st : fb_S) (hF : f_I_linksOf x1 st = some o) : fb_G p l e (headSpec kw_I_linksOf rm_I_linksOf).room s m args below meth c (dC, dI) vcl (tX dA) (wX dA a) A (some (.int o.1)) o.2 0 2 [(0, .ref (a 2)), (1, .int x1)] [] st := by
  intro H locs hP hD hS ls hl
  obtain ⟨hx, hb, hr, hml, hown, hts, hK, hA, hlocks, hZ⟩ := id CX
  unfold f_I_linksOf at hF
  refine lv_aload_n hx hb kd_I_linksOf_0 rfl (lv_at hl 0 rfl) ?_
  refine lv_iload_n hx hb kd_I_linksOf_1 rfl (lv_at hl 1 rfl) ?_
  obtain ⟨r1, e_r1, hF⟩ := fb_ob hF
  refine fb_callV (As := [.int x1]) (rest := []) ⟨hx, hb, hml, hown, hts⟩ zX_mv hZ hK hP hD hS hA (c_I_isInode l dC dI dA a z x1 st r1 e_r1) (cwV 1 hts (gd_V q_108 ko_I_isInode) rfl rfl rfl kh_I_isInode ⟨Nat.le_of_ble_eq_true rfl, Nat.le_of_ble_eq_true rfl⟩) 2 2 rfl rfl rfl rfl hl.1 rfl (Nat.le_of_ble_eq_true rfl) kd_I_linksOf_2 ⟨Nat.zero_le _, Nat.zero_le _⟩ (fun H locs hP hD hS => ?_)
  refine W.eq (g2 := F0 m 5 ls [.int r1.1]) rfl ?_
  refine lv_if_eq (tgt := 28) hx hb kd_I_linksOf_5 (by decide) (fun c2 => ?_) (fun c2 => ?_)
  · rw [if_pos c2] at hF
    refine lv_iconst (v := 0) hx hb kd_I_linksOf_28 (by decide) ?_
    exact fb_ri (o := o) hx hb hr hlocks hK hP hD hS hF kd_I_linksOf_29
  · rw [if_neg c2] at hF
    refine lv_aload_n hx hb kd_I_linksOf_8 rfl (lv_at hl 0 rfl) ?_
    refine va_get (D := (dC, dI)) (ci := 2) (v := .ref (a 3)) (C := "FileTree$Inodes") (T := ft_I) (N := 2) hx hb hts fi_I hown hK hP 2 rfl rfl 0 (by decide) (hts _ q_41) (fun _ h9 => h9) rfl kd_I_linksOf_9 ?_
    refine lv_aload_n hx hb kd_I_linksOf_12 rfl (lv_at hl 0 rfl) ?_
    refine lv_iload_n hx hb kd_I_linksOf_13 rfl (lv_at hl 1 rfl) ?_
    obtain ⟨r3, e_r3, hF⟩ := fb_ob hF
    refine fb_callV (As := [.int x1]) (rest := [.ref (a 3)]) ⟨hx, hb, hml, hown, hts⟩ zX_mv hZ hK hP hD hS hA (c_I_placeOf l dC dI dA a z x1 r1.2 r3 e_r3) (cwV 1 hts (gd_V q_112 ko_I_placeOf) rfl rfl rfl kh_I_placeOf ⟨Nat.le_of_ble_eq_true rfl, Nat.le_of_ble_eq_true rfl⟩) 2 2 rfl rfl rfl rfl hl.1 rfl (Nat.le_of_ble_eq_true rfl) kd_I_linksOf_14 ⟨Nat.zero_le _, Nat.zero_le _⟩ (fun H locs hP hD hS => ?_)
    refine W.eq (g2 := F0 m 17 ls [.int r3.1, .ref (a 3)]) rfl ?_
    refine lv_bipush (v := 6) hx hb kd_I_linksOf_17 (by decide) ?_
    refine lv_iadd hx hb kd_I_linksOf_19 ?_
    refine lv_ldc (v := 65535) hx hb hown (hts _ q_117) kd_I_linksOf_20 ?_
    obtain ⟨r4, e_r4, hF⟩ := fb_ob hF
    refine fb_callV (As := [.int (r3.1 + (6 : Int32)), .int (65535 : Int32)]) (rest := []) ⟨hx, hb, hml, hown, hts⟩ zX_mv hZ hK hP hD hS hA (c_K_partAt l dC dI dA a z (r3.1 + (6 : Int32)) (65535 : Int32) r3.2 r4 e_r4) (cwV 2 hts (gd_V q_141 ko_K_partAt) rfl rfl rfl kh_K_partAt ⟨Nat.le_of_ble_eq_true rfl, Nat.le_of_ble_eq_true rfl⟩) 1 3 rfl rfl rfl rfl hl.1 rfl (Nat.le_of_ble_eq_true rfl) kd_I_linksOf_22 ⟨Nat.zero_le _, Nat.zero_le _⟩ (fun H locs hP hD hS => ?_)
    refine W.eq (g2 := F0 m 25 ls [.int r4.1]) rfl ?_
    refine lv_goto (tgt := 29) hx hb kd_I_linksOf_25 (by decide) ?_
    exact fb_ri (o := o) hx hb hr hlocks hK hP hD hS hF kd_I_linksOf_29
theorem c_I_linksOf (l : Launch) (dC : Nat → ClassId) (dI : Nat → Nat → Nat) (dA : Nat → ClassId) (a : Nat → Nat) (z : Nat → Nat) (x1 : Int32) (st : fb_S) (o : Int32 × fb_S) (h : f_I_linksOf x1 st = some o) : fb_M l ky_I_linksOf kw_I_linksOf rm_I_linksOf (dC, dI) vcl (tX dA) (wX dA a) (zX z) [.ref (a 2), .int x1] (some (.int o.1)) st o.2 := fb_enter (by decide) rfl (Nat.le_of_ble_eq_true rfl) (fun p e s m below meth c A CX hP hD hS ls hl => w_I_linksOf_0 CX o x1 st h s.heap [] hP hD hS ls hl)
abbrev rm_I_addLinks : Room := { frames := 2, cells := 0, slots := 0, locals := 45 }
def f_I_addLinks (x1 : Int32) (x2 : Int32) (st : fb_S) : Option (Int32 × fb_S) := (f_I_isInode x1 st).bind fun r1 => (if r1.1 = (0 : Int32) then some (0, r1.2) else (f_I_placeOf x1 r1.2).bind fun r3 => (f_I_linksOf x1 r3.2).bind fun r4 => (f_K_setPart (r3.1 + (6 : Int32)) (65535 : Int32) (r4.1 + x2) r4.2).bind fun r5 => some (0, r5.2))
set_option maxHeartbeats 4000000 in
set_option maxRecDepth 100000 in
theorem w_I_addLinks_0 {p : Program} {l : Launch} {e : Env} {s : State} {m : MethodId} {args : Array Value} {below : List Frame} {meth : Method} {c : Code} {A : Nat → Prop} {dC : Nat → ClassId} {dI : Nat → Nat → Nat} {dA : Nat → ClassId} {a : Nat → Nat} {z : Nat → Nat} (CX : fb_C p s m args meth c kc_I_addLinks none 3 "FileTree$Inodes" (dC, dI) vcl (tX dA) A (zX z)) (o : Int32 × fb_S) (x1 : Int32) (x2 : Int32) (st : fb_S) (hF : f_I_addLinks x1 x2 st = some o) : fb_G p l e (headSpec kw_I_addLinks rm_I_addLinks).room s m args below meth c (dC, dI) vcl (tX dA) (wX dA a) A none o.2 0 3 [(0, .ref (a 2)), (1, .int x1), (2, .int x2)] [] st := by
  intro H locs hP hD hS ls hl
  obtain ⟨hx, hb, hr, hml, hown, hts, hK, hA, hlocks, hZ⟩ := id CX
  unfold f_I_addLinks at hF
  refine lv_aload_n hx hb kd_I_addLinks_0 rfl (lv_at hl 0 rfl) ?_
  refine lv_iload_n hx hb kd_I_addLinks_1 rfl (lv_at hl 1 rfl) ?_
  obtain ⟨r1, e_r1, hF⟩ := fb_ob hF
  refine fb_callV (As := [.int x1]) (rest := []) ⟨hx, hb, hml, hown, hts⟩ zX_mv hZ hK hP hD hS hA (c_I_isInode l dC dI dA a z x1 st r1 e_r1) (cwV 1 hts (gd_V q_108 ko_I_isInode) rfl rfl rfl kh_I_isInode ⟨Nat.le_of_ble_eq_true rfl, Nat.le_of_ble_eq_true rfl⟩) 2 2 rfl rfl rfl rfl hl.1 rfl (Nat.le_of_ble_eq_true rfl) kd_I_addLinks_2 ⟨Nat.zero_le _, Nat.zero_le _⟩ (fun H locs hP hD hS => ?_)
  refine W.eq (g2 := F0 m 5 ls [.int r1.1]) rfl ?_
  refine lv_if_eq (tgt := 32) hx hb kd_I_addLinks_5 (by decide) (fun c2 => ?_) (fun c2 => ?_)
  · rw [if_pos c2] at hF
    exact fb_rv (o := o) hx hb hr hlocks hK hP hD hS hF kd_I_addLinks_32
  · rw [if_neg c2] at hF
    refine lv_aload_n hx hb kd_I_addLinks_8 rfl (lv_at hl 0 rfl) ?_
    refine va_get (D := (dC, dI)) (ci := 2) (v := .ref (a 3)) (C := "FileTree$Inodes") (T := ft_I) (N := 2) hx hb hts fi_I hown hK hP 2 rfl rfl 0 (by decide) (hts _ q_41) (fun _ h9 => h9) rfl kd_I_addLinks_9 ?_
    refine lv_aload_n hx hb kd_I_addLinks_12 rfl (lv_at hl 0 rfl) ?_
    refine lv_iload_n hx hb kd_I_addLinks_13 rfl (lv_at hl 1 rfl) ?_
    obtain ⟨r3, e_r3, hF⟩ := fb_ob hF
    refine fb_callV (As := [.int x1]) (rest := [.ref (a 3)]) ⟨hx, hb, hml, hown, hts⟩ zX_mv hZ hK hP hD hS hA (c_I_placeOf l dC dI dA a z x1 r1.2 r3 e_r3) (cwV 1 hts (gd_V q_112 ko_I_placeOf) rfl rfl rfl kh_I_placeOf ⟨Nat.le_of_ble_eq_true rfl, Nat.le_of_ble_eq_true rfl⟩) 2 2 rfl rfl rfl rfl hl.1 rfl (Nat.le_of_ble_eq_true rfl) kd_I_addLinks_14 ⟨Nat.zero_le _, Nat.zero_le _⟩ (fun H locs hP hD hS => ?_)
    refine W.eq (g2 := F0 m 17 ls [.int r3.1, .ref (a 3)]) rfl ?_
    refine lv_bipush (v := 6) hx hb kd_I_addLinks_17 (by decide) ?_
    refine lv_iadd hx hb kd_I_addLinks_19 ?_
    refine lv_ldc (v := 65535) hx hb hown (hts _ q_117) kd_I_addLinks_20 ?_
    refine lv_aload_n hx hb kd_I_addLinks_22 rfl (lv_at hl 0 rfl) ?_
    refine lv_iload_n hx hb kd_I_addLinks_23 rfl (lv_at hl 1 rfl) ?_
    obtain ⟨r4, e_r4, hF⟩ := fb_ob hF
    refine fb_callV (As := [.int x1]) (rest := [.int (65535 : Int32), .int (r3.1 + (6 : Int32)), .ref (a 3)]) ⟨hx, hb, hml, hown, hts⟩ zX_mv hZ hK hP hD hS hA (c_I_linksOf l dC dI dA a z x1 r3.2 r4 e_r4) (cwV 1 hts (gd_V q_203 ko_I_linksOf) rfl rfl rfl kh_I_linksOf ⟨Nat.le_of_ble_eq_true rfl, Nat.le_of_ble_eq_true rfl⟩) 2 2 rfl rfl rfl rfl hl.1 rfl (Nat.le_of_ble_eq_true rfl) kd_I_addLinks_24 ⟨Nat.zero_le _, Nat.zero_le _⟩ (fun H locs hP hD hS => ?_)
    refine W.eq (g2 := F0 m 27 ls [.int r4.1, .int (65535 : Int32), .int (r3.1 + (6 : Int32)), .ref (a 3)]) rfl ?_
    refine lv_iload_n hx hb kd_I_addLinks_27 rfl (lv_at hl 2 rfl) ?_
    refine lv_iadd hx hb kd_I_addLinks_28 ?_
    obtain ⟨r5, e_r5, hF⟩ := fb_ob hF
    refine fb_callV (As := [.int (r3.1 + (6 : Int32)), .int (65535 : Int32), .int (r4.1 + x2)]) (rest := []) ⟨hx, hb, hml, hown, hts⟩ zX_mv hZ hK hP hD hS hA (c_K_setPart l dC dI dA a z (r3.1 + (6 : Int32)) (65535 : Int32) (r4.1 + x2) r4.2 r5 e_r5) (cwV 3 hts (gd_V q_118 ko_K_setPart) rfl rfl rfl kh_K_setPart ⟨Nat.le_of_ble_eq_true rfl, Nat.le_of_ble_eq_true rfl⟩) 1 3 rfl rfl rfl rfl hl.1 rfl (Nat.le_of_ble_eq_true rfl) kd_I_addLinks_29 ⟨Nat.zero_le _, Nat.zero_le _⟩ (fun H locs hP hD hS => ?_)
    refine W.eq (g2 := F0 m 32 ls []) rfl ?_
    exact fb_rv (o := o) hx hb hr hlocks hK hP hD hS hF kd_I_addLinks_32
theorem c_I_addLinks (l : Launch) (dC : Nat → ClassId) (dI : Nat → Nat → Nat) (dA : Nat → ClassId) (a : Nat → Nat) (z : Nat → Nat) (x1 : Int32) (x2 : Int32) (st : fb_S) (o : Int32 × fb_S) (h : f_I_addLinks x1 x2 st = some o) : fb_M l ky_I_addLinks kw_I_addLinks rm_I_addLinks (dC, dI) vcl (tX dA) (wX dA a) (zX z) [.ref (a 2), .int x1, .int x2] none st o.2 := fb_enter (by decide) rfl (Nat.le_of_ble_eq_true rfl) (fun p e s m below meth c A CX hP hD hS ls hl => w_I_addLinks_0 CX o x1 x2 st h s.heap [] hP hD hS ls hl)
abbrev rm_D_begin : Room := { frames := 5, cells := 0, slots := 0, locals := 119 }
def f_D_begin (x1 : Int32) (x2 : Int32) (st : fb_S) : Option (Int32 × fb_S) := (f_D_addEntry_z1 x1 x1 st).bind fun r1 => (f_D_addEntry_z2 x1 x2 r1.2).bind fun r2 => (f_I_addLinks x2 (1 : Int32) r2.2).bind fun r3 => some (0, r3.2)
set_option maxHeartbeats 4000000 in
set_option maxRecDepth 100000 in
theorem w_D_begin_0 {p : Program} {l : Launch} {e : Env} {s : State} {m : MethodId} {args : Array Value} {below : List Frame} {meth : Method} {c : Code} {A : Nat → Prop} {dC : Nat → ClassId} {dI : Nat → Nat → Nat} {dA : Nat → ClassId} {a : Nat → Nat} {z : Nat → Nat} (CX : fb_C p s m args meth c kc_D_begin none 3 "FileTree$Directories" (dC, dI) vcl (tX dA) A (zX z)) (o : Int32 × fb_S) (x1 : Int32) (x2 : Int32) (st : fb_S) (hF : f_D_begin x1 x2 st = some o) : fb_G p l e (headSpec kw_D_begin rm_D_begin).room s m args below meth c (dC, dI) vcl (tX dA) (wX dA a) A none o.2 0 3 [(0, .ref (a 1)), (1, .int x1), (2, .int x2)] [] st := by
  intro H locs hP hD hS ls hl
  obtain ⟨hx, hb, hr, hml, hown, hts, hK, hA, hlocks, hZ⟩ := id CX
  unfold f_D_begin at hF
  refine lv_aload_n hx hb kd_D_begin_0 rfl (lv_at hl 0 rfl) ?_
  refine lv_iload_n hx hb kd_D_begin_1 rfl (lv_at hl 1 rfl) ?_
  refine va_getsN hx hb hZ.2.1 hS hown (va_Nw.use rfl hZ.2.2.2.2.2.2.2.1) (fun _ h9 => h9) kd_D_begin_2 ?_
  refine lv_iload_n hx hb kd_D_begin_5 rfl (lv_at hl 1 rfl) ?_
  obtain ⟨r1, e_r1, hF⟩ := fb_ob hF
  refine fb_callV (As := [.int x1, .ref (z 1), .int x1]) (rest := []) ⟨hx, hb, hml, hown, hts⟩ zX_mv hZ hK hP hD hS hA (c_D_addEntry_z1 l dC dI dA a z x1 x1 st r1 e_r1) (cwV 3 hts (gd_V q_125 ko_D_addEntry) rfl rfl rfl kh_D_addEntry ⟨Nat.le_of_ble_eq_true rfl, Nat.le_of_ble_eq_true rfl⟩) 0 1 rfl rfl rfl rfl hl.1 rfl (Nat.le_of_ble_eq_true rfl) kd_D_begin_6 ⟨Nat.zero_le _, Nat.zero_le _⟩ (fun H locs hP hD hS => ?_)
  refine W.eq (g2 := F0 m 9 ls []) rfl ?_
  refine lv_aload_n hx hb kd_D_begin_9 rfl (lv_at hl 0 rfl) ?_
  refine lv_iload_n hx hb kd_D_begin_10 rfl (lv_at hl 1 rfl) ?_
  refine va_getsN hx hb hZ.2.2.1 hS hown (va_Nw.use rfl hZ.2.2.2.2.2.2.2.2) (fun _ h9 => h9) kd_D_begin_11 ?_
  refine lv_iload_n hx hb kd_D_begin_14 rfl (lv_at hl 2 rfl) ?_
  obtain ⟨r2, e_r2, hF⟩ := fb_ob hF
  refine fb_callV (As := [.int x1, .ref (z 2), .int x2]) (rest := []) ⟨hx, hb, hml, hown, hts⟩ zX_mv hZ hK hP hD hS hA (c_D_addEntry_z2 l dC dI dA a z x1 x2 r1.2 r2 e_r2) (cwV 3 hts (gd_V q_125 ko_D_addEntry) rfl rfl rfl kh_D_addEntry ⟨Nat.le_of_ble_eq_true rfl, Nat.le_of_ble_eq_true rfl⟩) 0 1 rfl rfl rfl rfl hl.1 rfl (Nat.le_of_ble_eq_true rfl) kd_D_begin_15 ⟨Nat.zero_le _, Nat.zero_le _⟩ (fun H locs hP hD hS => ?_)
  refine W.eq (g2 := F0 m 18 ls []) rfl ?_
  refine lv_aload_n hx hb kd_D_begin_18 rfl (lv_at hl 0 rfl) ?_
  refine va_get (D := (dC, dI)) (ci := 0) (v := .ref (a 2)) (C := "FileTree$Directories") (T := ft_D) (N := 2) hx hb hts fi_D hown hK hP 1 rfl rfl 0 (by decide) (hts _ q_50) (fun _ h9 => h9) rfl kd_D_begin_19 ?_
  refine lv_iload_n hx hb kd_D_begin_22 rfl (lv_at hl 2 rfl) ?_
  refine lv_iconst (v := 1) hx hb kd_D_begin_23 (by decide) ?_
  obtain ⟨r3, e_r3, hF⟩ := fb_ob hF
  refine fb_callV (As := [.int x2, .int (1 : Int32)]) (rest := []) ⟨hx, hb, hml, hown, hts⟩ zX_mv hZ hK hP hD hS hA (c_I_addLinks l dC dI dA a z x2 (1 : Int32) r2.2 r3 e_r3) (cwV 2 hts (gd_V q_199 ko_I_addLinks) rfl rfl rfl kh_I_addLinks ⟨Nat.le_of_ble_eq_true rfl, Nat.le_of_ble_eq_true rfl⟩) 2 2 rfl rfl rfl rfl hl.1 rfl (Nat.le_of_ble_eq_true rfl) kd_D_begin_24 ⟨Nat.zero_le _, Nat.zero_le _⟩ (fun H locs hP hD hS => ?_)
  refine W.eq (g2 := F0 m 27 ls []) rfl ?_
  exact fb_rv (o := o) hx hb hr hlocks hK hP hD hS hF kd_D_begin_27
theorem c_D_begin (l : Launch) (dC : Nat → ClassId) (dI : Nat → Nat → Nat) (dA : Nat → ClassId) (a : Nat → Nat) (z : Nat → Nat) (x1 : Int32) (x2 : Int32) (st : fb_S) (o : Int32 × fb_S) (h : f_D_begin x1 x2 st = some o) : fb_M l ky_D_begin kw_D_begin rm_D_begin (dC, dI) vcl (tX dA) (wX dA a) (zX z) [.ref (a 1), .int x1, .int x2] none st o.2 := fb_enter (by decide) rfl (Nat.le_of_ble_eq_true rfl) (fun p e s m below meth c A CX hP hD hS ls hl => w_D_begin_0 CX o x1 x2 st h s.heap [] hP hD hS ls hl)
abbrev rm_X_append : Room := { frames := 0, cells := 0, slots := 0, locals := 0 }
def b_X_append_116 (k58 : Int64 → Int32 → fb_S → Option (Int32 × fb_S)) (x1 : Int64) (x4 : Int32) (st : fb_S) : Option (Int32 × fb_S) := k58 x1 (x4 + (-8 : Int32)) st
set_option maxHeartbeats 4000000 in
set_option maxRecDepth 100000 in
theorem w_X_append_116 {p : Program} {l : Launch} {e : Env} {s : State} {m : MethodId} {args : Array Value} {below : List Frame} {meth : Method} {c : Code} {A : Nat → Prop} {dC : Nat → ClassId} {dI : Nat → Nat → Nat} {dA : Nat → ClassId} {a : Nat → Nat} {z : Nat → Nat} (CX : fb_C p s m args meth c kc_X_append (some .boolean) 6 "FileTree$Text" (dC, dI) vcl (tX dA) A (zX z)) (o : Int32 × fb_S) (k58 : Int64 → Int32 → fb_S → Option (Int32 × fb_S)) (hk58 : ∀ (x1 : Int64) (x4 : Int32) (st : fb_S), k58 x1 x4 st = some o → fb_G p l e (headSpec kw_X_append rm_X_append).room s m args below meth c (dC, dI) vcl (tX dA) (wX dA a) A (some (.int o.1)) o.2 58 6 [(0, .ref (a 4)), (1, .long x1), (4, .int x4)] [] st) (x1 : Int64) (x4 : Int32) (st : fb_S) (hF : b_X_append_116 k58 x1 x4 st = some o) : fb_G p l e (headSpec kw_X_append rm_X_append).room s m args below meth c (dC, dI) vcl (tX dA) (wX dA a) A (some (.int o.1)) o.2 116 6 [(0, .ref (a 4)), (1, .long x1), (4, .int x4)] [] st := by
  intro H locs hP hD hS ls hl
  obtain ⟨hx, hb, hr, hml, hown, hts, hK, hA, hlocks, hZ⟩ := id CX
  unfold b_X_append_116 at hF
  refine lv_iinc (v := x4 + (-8 : Int32)) (lv' := [(4, .int (x4 + (-8 : Int32))), (0, .ref (a 4)), (1, .long x1)]) hx hb kd_X_append_116 hl (k := 2) rfl rfl (by decide) rfl (fun ls hl => ?_)
  refine lv_goto (tgt := 58) hx hb kd_X_append_119 (by decide) ?_
  exact hk58 x1 (x4 + (-8 : Int32)) st hF H locs hP hD hS ls (lv_sub hl [1, 2, 0] rfl)
def b_X_append_58 (k58 : Int64 → Int32 → fb_S → Option (Int32 × fb_S)) (x1 : Int64) (x4 : Int32) (st : fb_S) : Option (Int32 × fb_S) := (if x4 < (0 : Int32) then fb_rz (1 : Int32) st else (if (fb_b ((fb_lus x1 x4).toInt32)) = (0 : Int32) then b_X_append_116 k58 x1 x4 st else (if (st 6 0) < (0 : Int32) then b_X_append_116 k58 x1 x4 st else (if (260 : Int32) ≤ (st 6 0) then b_X_append_116 k58 x1 x4 st else (fb_st st 2 260 (st 6 0) (fb_b (fb_b ((fb_lus x1 x4).toInt32)))).bind fun s5 => (fb_pf s5 6 ((s5 6 0) + (1 : Int32))).bind fun s6 => b_X_append_116 k58 x1 x4 s6))))
set_option maxHeartbeats 4000000 in
set_option maxRecDepth 100000 in
theorem w_X_append_58 {p : Program} {l : Launch} {e : Env} {s : State} {m : MethodId} {args : Array Value} {below : List Frame} {meth : Method} {c : Code} {A : Nat → Prop} {dC : Nat → ClassId} {dI : Nat → Nat → Nat} {dA : Nat → ClassId} {a : Nat → Nat} {z : Nat → Nat} (CX : fb_C p s m args meth c kc_X_append (some .boolean) 6 "FileTree$Text" (dC, dI) vcl (tX dA) A (zX z)) (o : Int32 × fb_S) (k58 : Int64 → Int32 → fb_S → Option (Int32 × fb_S)) (hk58 : ∀ (x1 : Int64) (x4 : Int32) (st : fb_S), k58 x1 x4 st = some o → fb_G p l e (headSpec kw_X_append rm_X_append).room s m args below meth c (dC, dI) vcl (tX dA) (wX dA a) A (some (.int o.1)) o.2 58 6 [(0, .ref (a 4)), (1, .long x1), (4, .int x4)] [] st) (x1 : Int64) (x4 : Int32) (st : fb_S) (hF : b_X_append_58 k58 x1 x4 st = some o) : fb_G p l e (headSpec kw_X_append rm_X_append).room s m args below meth c (dC, dI) vcl (tX dA) (wX dA a) A (some (.int o.1)) o.2 58 6 [(0, .ref (a 4)), (1, .long x1), (4, .int x4)] [] st := by
  intro H locs hP hD hS ls hl
  obtain ⟨hx, hb, hr, hml, hown, hts, hK, hA, hlocks, hZ⟩ := id CX
  unfold b_X_append_58 at hF
  refine lv_iload hx hb kd_X_append_58 (lv_at hl 2 rfl) ?_
  refine lv_if_lt (tgt := 122) hx hb kd_X_append_60 (by decide) (fun c1 => ?_) (fun c1 => ?_)
  · rw [if_pos c1] at hF
    refine lv_iconst (v := 1) hx hb kd_X_append_122 (by decide) ?_
    exact fb_rb (o := o) hx hb hr hlocks hK hP hD hS hF kd_X_append_123
  · rw [if_neg c1] at hF
    refine lv_lload_n hx hb kd_X_append_63 rfl (lv_at hl 1 rfl) ?_
    refine lv_iload hx hb kd_X_append_64 (lv_at hl 2 rfl) ?_
    refine lv_lushr (v := fb_lus x1 x4) hx hb kd_X_append_66 rfl ?_
    refine lv_l2i (v := (fb_lus x1 x4).toInt32) hx hb kd_X_append_67 rfl ?_
    refine lv_i2b (v := fb_b ((fb_lus x1 x4).toInt32)) hx hb kd_X_append_68 rfl ?_
    refine lv_istore (lv' := [(5, .int (fb_b ((fb_lus x1 x4).toInt32))), (0, .ref (a 4)), (1, .long x1), (4, .int x4)]) hx hb kd_X_append_69 hl (by decide) rfl (fun ls hl => ?_)
    refine lv_iload hx hb kd_X_append_71 (lv_at hl 0 rfl) ?_
    refine lv_if_eq (tgt := 116) hx hb kd_X_append_73 (by decide) (fun c2 => ?_) (fun c2 => ?_)
    · rw [if_pos c2] at hF
      exact w_X_append_116 CX o k58 hk58 x1 x4 st hF H locs hP hD hS ls (lv_sub hl [1, 2, 3] rfl)
    · rw [if_neg c2] at hF
      refine lv_aload_n hx hb kd_X_append_76 rfl (lv_at hl 1 rfl) ?_
      refine va_get (D := (dC, dI)) (ci := 3) (v := .int (st 6 0)) (C := "FileTree$Text") (T := ft_X) (N := 4) hx hb hts fi_X hown hK hP 4 rfl rfl 3 (by decide) (hts _ q_69) (fun _ h9 => h9) rfl kd_X_append_77 ?_
      refine lv_if_lt (tgt := 116) hx hb kd_X_append_80 (by decide) (fun c3 => ?_) (fun c3 => ?_)
      · rw [if_pos c3] at hF
        exact w_X_append_116 CX o k58 hk58 x1 x4 st hF H locs hP hD hS ls (lv_sub hl [1, 2, 3] rfl)
      · rw [if_neg c3] at hF
        refine lv_aload_n hx hb kd_X_append_83 rfl (lv_at hl 1 rfl) ?_
        refine va_get (D := (dC, dI)) (ci := 3) (v := .int (st 6 0)) (C := "FileTree$Text") (T := ft_X) (N := 4) hx hb hts fi_X hown hK hP 4 rfl rfl 3 (by decide) (hts _ q_69) (fun _ h9 => h9) rfl kd_X_append_84 ?_
        refine lv_aload_n hx hb kd_X_append_87 rfl (lv_at hl 1 rfl) ?_
        refine va_get (D := (dC, dI)) (ci := 3) (v := .ref (a 7)) (C := "FileTree$Text") (T := ft_X) (N := 4) hx hb hts fi_X hown hK hP 4 rfl rfl 0 (by decide) (hts _ q_64) (fun _ h9 => h9) rfl kd_X_append_88 ?_
        refine va_alen (v := 260) hx hb hK hP 7 1 rfl rfl rfl kd_X_append_91 ?_
        refine lv_icmp_ge (tgt := 116) hx hb kd_X_append_92 (by decide) (fun c4 => ?_) (fun c4 => ?_)
        · rw [if_pos c4] at hF
          exact w_X_append_116 CX o k58 hk58 x1 x4 st hF H locs hP hD hS ls (lv_sub hl [1, 2, 3] rfl)
        · rw [if_neg c4] at hF
          refine lv_aload_n hx hb kd_X_append_95 rfl (lv_at hl 1 rfl) ?_
          refine va_get (D := (dC, dI)) (ci := 3) (v := .ref (a 7)) (C := "FileTree$Text") (T := ft_X) (N := 4) hx hb hts fi_X hown hK hP 4 rfl rfl 0 (by decide) (hts _ q_64) (fun _ h9 => h9) rfl kd_X_append_96 ?_
          refine lv_aload_n hx hb kd_X_append_99 rfl (lv_at hl 1 rfl) ?_
          refine va_get (D := (dC, dI)) (ci := 3) (v := .int (st 6 0)) (C := "FileTree$Text") (T := ft_X) (N := 4) hx hb hts fi_X hown hK hP 4 rfl rfl 3 (by decide) (hts _ q_69) (fun _ h9 => h9) rfl kd_X_append_100 ?_
          refine lv_iload hx hb kd_X_append_103 (lv_at hl 0 rfl) ?_
          obtain ⟨s5, e_s5, hF⟩ := fb_ob hF
          refine fb_bast (wx := (wX dA a)) (k := 2) hx hb hK hP hD hS 7 1 rfl rfl e_s5 (fun _ => rfl) kd_X_append_105 (fun H locs hP hD hS => ?_)
          refine lv_aload_n hx hb kd_X_append_106 rfl (lv_at hl 1 rfl) ?_
          refine lv_dup hx hb kd_X_append_107 rfl ?_
          refine va_get (D := (dC, dI)) (ci := 3) (v := .int (s5 6 0)) (C := "FileTree$Text") (T := ft_X) (N := 4) hx hb hts fi_X hown hK hP 4 rfl rfl 3 (by decide) (hts _ q_69) (fun _ h9 => h9) rfl kd_X_append_108 ?_
          refine lv_iconst (v := 1) hx hb kd_X_append_111 (by decide) ?_
          refine lv_iadd hx hb kd_X_append_112 ?_
          obtain ⟨s6, e_s6, hF⟩ := fb_ob hF
          refine va_put (D := (dC, dI)) (ci := 3) (v := .int ((s5 6 0) + (1 : Int32))) (ty := .int) (C := "FileTree$Text") (T := ft_X) (N := 4) hx hb hts fi_X fy_X fo_X fn_X hown hK hP hD hS 4 rfl rfl 3 (by decide) (hts _ q_69) (fun _ h9 => h9) rfl (by decide +kernel) rfl rfl (Nat.le_of_ble_eq_true rfl) kd_X_append_113 (fun H locs hP hD hS => ?_)
          cases e_s6
          obtain ⟨s6, e_s6⟩ : ∃ z : fb_S, z = va_up s5 6 (upd (s5 6) 0 ((s5 6 0) + (1 : Int32))) := ⟨_, rfl⟩
          rw [← e_s6] at hF
          have hP : va_P (dC, dI) vcl ((wX dA a) s6) H := by rw [e_s6]; exact hP
          have hD : va_D A ((wX dA a) s6) := by rw [e_s6]; exact hD
          exact w_X_append_116 CX o k58 hk58 x1 x4 s6 hF H locs hP hD hS ls (lv_sub hl [1, 2, 3] rfl)
def l_X_append_58 : Nat → Int64 → Int32 → fb_S → Option (Int32 × fb_S)
  | 0 => fun _ _ _ => none
  | n + 1 => b_X_append_58 (l_X_append_58 n)
theorem v_X_append_58 {p : Program} {l : Launch} {e : Env} {s : State} {m : MethodId} {args : Array Value} {below : List Frame} {meth : Method} {c : Code} {A : Nat → Prop} {dC : Nat → ClassId} {dI : Nat → Nat → Nat} {dA : Nat → ClassId} {a : Nat → Nat} {z : Nat → Nat} (CX : fb_C p s m args meth c kc_X_append (some .boolean) 6 "FileTree$Text" (dC, dI) vcl (tX dA) A (zX z)) (o : Int32 × fb_S) (n : Nat) : ∀ (x1 : Int64) (x4 : Int32) (st : fb_S), l_X_append_58 n x1 x4 st = some o → fb_G p l e (headSpec kw_X_append rm_X_append).room s m args below meth c (dC, dI) vcl (tX dA) (wX dA a) A (some (.int o.1)) o.2 58 6 [(0, .ref (a 4)), (1, .long x1), (4, .int x4)] [] st := by
  induction n with
  | zero => intro x1 x4 st hF; cases hF
  | succ n ih => intro x1 x4 st hF; exact w_X_append_58 CX o (l_X_append_58 n) ih x1 x4 st hF
def b_X_append_30 (k6 : Int64 → Int32 → Int32 → fb_S → Option (Int32 × fb_S)) (x1 : Int64) (x4 : Int32) (y0 : Int32) (y1 : Int32) (st : fb_S) : Option (Int32 × fb_S) := k6 x1 (y1 + y0) (x4 + (-8 : Int32)) st
set_option maxHeartbeats 4000000 in
set_option maxRecDepth 100000 in
theorem w_X_append_30 {p : Program} {l : Launch} {e : Env} {s : State} {m : MethodId} {args : Array Value} {below : List Frame} {meth : Method} {c : Code} {A : Nat → Prop} {dC : Nat → ClassId} {dI : Nat → Nat → Nat} {dA : Nat → ClassId} {a : Nat → Nat} {z : Nat → Nat} (CX : fb_C p s m args meth c kc_X_append (some .boolean) 6 "FileTree$Text" (dC, dI) vcl (tX dA) A (zX z)) (o : Int32 × fb_S) (k6 : Int64 → Int32 → Int32 → fb_S → Option (Int32 × fb_S)) (hk6 : ∀ (x1 : Int64) (x3 : Int32) (x4 : Int32) (st : fb_S), k6 x1 x3 x4 st = some o → fb_G p l e (headSpec kw_X_append rm_X_append).room s m args below meth c (dC, dI) vcl (tX dA) (wX dA a) A (some (.int o.1)) o.2 6 6 [(0, .ref (a 4)), (1, .long x1), (3, .int x3), (4, .int x4)] [] st) (x1 : Int64) (x4 : Int32) (y0 : Int32) (y1 : Int32) (st : fb_S) (hF : b_X_append_30 k6 x1 x4 y0 y1 st = some o) : fb_G p l e (headSpec kw_X_append rm_X_append).room s m args below meth c (dC, dI) vcl (tX dA) (wX dA a) A (some (.int o.1)) o.2 30 6 [(0, .ref (a 4)), (1, .long x1), (4, .int x4)] [.int y0, .int y1] st := by
  intro H locs hP hD hS ls hl
  obtain ⟨hx, hb, hr, hml, hown, hts, hK, hA, hlocks, hZ⟩ := id CX
  unfold b_X_append_30 at hF
  refine lv_iadd hx hb kd_X_append_30 ?_
  refine lv_istore_n (lv' := [(3, .int (y1 + y0)), (0, .ref (a 4)), (1, .long x1), (4, .int x4)]) hx hb kd_X_append_31 rfl hl (by decide) rfl (fun ls hl => ?_)
  refine lv_iinc (v := x4 + (-8 : Int32)) (lv' := [(4, .int (x4 + (-8 : Int32))), (3, .int (y1 + y0)), (0, .ref (a 4)), (1, .long x1)]) hx hb kd_X_append_32 hl (k := 3) rfl rfl (by decide) rfl (fun ls hl => ?_)
  refine lv_goto (tgt := 6) hx hb kd_X_append_35 (by decide) ?_
  exact hk6 x1 (y1 + y0) (x4 + (-8 : Int32)) st hF H locs hP hD hS ls (lv_sub hl [2, 3, 1, 0] rfl)
def b_X_append_6 (k6 : Int64 → Int32 → Int32 → fb_S → Option (Int32 × fb_S)) (x1 : Int64) (x3 : Int32) (x4 : Int32) (st : fb_S) : Option (Int32 × fb_S) := (if x4 < (0 : Int32) then (if x3 ≤ ((260 : Int32) - (st 6 0)) then l_X_append_58 fb_n x1 (56 : Int32) st else fb_rz (0 : Int32) st) else (if (lg_cmp ((fb_lus x1 x4) &&& (255 : Int64)) (0 : Int64)) = (0 : Int32) then b_X_append_30 k6 x1 x4 (0 : Int32) x3 st else b_X_append_30 k6 x1 x4 (1 : Int32) x3 st))
set_option maxHeartbeats 4000000 in
set_option maxRecDepth 100000 in
theorem w_X_append_6 {p : Program} {l : Launch} {e : Env} {s : State} {m : MethodId} {args : Array Value} {below : List Frame} {meth : Method} {c : Code} {A : Nat → Prop} {dC : Nat → ClassId} {dI : Nat → Nat → Nat} {dA : Nat → ClassId} {a : Nat → Nat} {z : Nat → Nat} (CX : fb_C p s m args meth c kc_X_append (some .boolean) 6 "FileTree$Text" (dC, dI) vcl (tX dA) A (zX z)) (o : Int32 × fb_S) (k6 : Int64 → Int32 → Int32 → fb_S → Option (Int32 × fb_S)) (hk6 : ∀ (x1 : Int64) (x3 : Int32) (x4 : Int32) (st : fb_S), k6 x1 x3 x4 st = some o → fb_G p l e (headSpec kw_X_append rm_X_append).room s m args below meth c (dC, dI) vcl (tX dA) (wX dA a) A (some (.int o.1)) o.2 6 6 [(0, .ref (a 4)), (1, .long x1), (3, .int x3), (4, .int x4)] [] st) (x1 : Int64) (x3 : Int32) (x4 : Int32) (st : fb_S) (hF : b_X_append_6 k6 x1 x3 x4 st = some o) : fb_G p l e (headSpec kw_X_append rm_X_append).room s m args below meth c (dC, dI) vcl (tX dA) (wX dA a) A (some (.int o.1)) o.2 6 6 [(0, .ref (a 4)), (1, .long x1), (3, .int x3), (4, .int x4)] [] st := by
  intro H locs hP hD hS ls hl
  obtain ⟨hx, hb, hr, hml, hown, hts, hK, hA, hlocks, hZ⟩ := id CX
  unfold b_X_append_6 at hF
  refine lv_iload hx hb kd_X_append_6 (lv_at hl 3 rfl) ?_
  refine lv_if_lt (tgt := 38) hx hb kd_X_append_8 (by decide) (fun c1 => ?_) (fun c1 => ?_)
  · rw [if_pos c1] at hF
    refine lv_iload_n hx hb kd_X_append_38 rfl (lv_at hl 2 rfl) ?_
    refine lv_aload_n hx hb kd_X_append_39 rfl (lv_at hl 0 rfl) ?_
    refine va_get (D := (dC, dI)) (ci := 3) (v := .ref (a 7)) (C := "FileTree$Text") (T := ft_X) (N := 4) hx hb hts fi_X hown hK hP 4 rfl rfl 0 (by decide) (hts _ q_64) (fun _ h9 => h9) rfl kd_X_append_40 ?_
    refine va_alen (v := 260) hx hb hK hP 7 1 rfl rfl rfl kd_X_append_43 ?_
    refine lv_aload_n hx hb kd_X_append_44 rfl (lv_at hl 0 rfl) ?_
    refine va_get (D := (dC, dI)) (ci := 3) (v := .int (st 6 0)) (C := "FileTree$Text") (T := ft_X) (N := 4) hx hb hts fi_X hown hK hP 4 rfl rfl 3 (by decide) (hts _ q_69) (fun _ h9 => h9) rfl kd_X_append_45 ?_
    refine lv_isub hx hb kd_X_append_48 ?_
    refine lv_icmp_le (tgt := 54) hx hb kd_X_append_49 (by decide) (fun c2 => ?_) (fun c2 => ?_)
    · rw [if_pos c2] at hF
      refine lv_bipush (v := 56) hx hb kd_X_append_54 (by decide) ?_
      refine lv_istore (lv' := [(4, .int (56 : Int32)), (0, .ref (a 4)), (1, .long x1), (3, .int x3)]) hx hb kd_X_append_56 hl (by decide) rfl (fun ls hl => ?_)
      exact v_X_append_58 CX o fb_n x1 (56 : Int32) st hF H locs hP hD hS ls (lv_sub hl [1, 2, 0] rfl)
    · rw [if_neg c2] at hF
      refine lv_iconst (v := 0) hx hb kd_X_append_52 (by decide) ?_
      exact fb_rb (o := o) hx hb hr hlocks hK hP hD hS hF kd_X_append_53
  · rw [if_neg c1] at hF
    refine lv_iload_n hx hb kd_X_append_11 rfl (lv_at hl 2 rfl) ?_
    refine lv_lload_n hx hb kd_X_append_12 rfl (lv_at hl 1 rfl) ?_
    refine lv_iload hx hb kd_X_append_13 (lv_at hl 3 rfl) ?_
    refine lv_lushr (v := fb_lus x1 x4) hx hb kd_X_append_15 rfl ?_
    refine lv_ldc2 (v := 255) hx hb hown (hts _ q_231) kd_X_append_16 ?_
    refine lv_land hx hb kd_X_append_19 ?_
    refine lv_lconst (v := 0) hx hb kd_X_append_20 (by decide) ?_
    refine W.lcmp hx hb kd_X_append_21 ?_
    refine lv_if_eq (tgt := 29) hx hb kd_X_append_22 (by decide) (fun c3 => ?_) (fun c3 => ?_)
    · rw [if_pos c3] at hF
      refine lv_iconst (v := 0) hx hb kd_X_append_29 (by decide) ?_
      exact w_X_append_30 CX o k6 hk6 x1 x4 (0 : Int32) x3 st hF H locs hP hD hS ls (lv_sub hl [0, 1, 3] rfl)
    · rw [if_neg c3] at hF
      refine lv_iconst (v := 1) hx hb kd_X_append_25 (by decide) ?_
      refine lv_goto (tgt := 30) hx hb kd_X_append_26 (by decide) ?_
      exact w_X_append_30 CX o k6 hk6 x1 x4 (1 : Int32) x3 st hF H locs hP hD hS ls (lv_sub hl [0, 1, 3] rfl)
def l_X_append_6 : Nat → Int64 → Int32 → Int32 → fb_S → Option (Int32 × fb_S)
  | 0 => fun _ _ _ _ => none
  | n + 1 => b_X_append_6 (l_X_append_6 n)
theorem v_X_append_6 {p : Program} {l : Launch} {e : Env} {s : State} {m : MethodId} {args : Array Value} {below : List Frame} {meth : Method} {c : Code} {A : Nat → Prop} {dC : Nat → ClassId} {dI : Nat → Nat → Nat} {dA : Nat → ClassId} {a : Nat → Nat} {z : Nat → Nat} (CX : fb_C p s m args meth c kc_X_append (some .boolean) 6 "FileTree$Text" (dC, dI) vcl (tX dA) A (zX z)) (o : Int32 × fb_S) (n : Nat) : ∀ (x1 : Int64) (x3 : Int32) (x4 : Int32) (st : fb_S), l_X_append_6 n x1 x3 x4 st = some o → fb_G p l e (headSpec kw_X_append rm_X_append).room s m args below meth c (dC, dI) vcl (tX dA) (wX dA a) A (some (.int o.1)) o.2 6 6 [(0, .ref (a 4)), (1, .long x1), (3, .int x3), (4, .int x4)] [] st := by
  induction n with
  | zero => intro x1 x3 x4 st hF; cases hF
  | succ n ih => intro x1 x3 x4 st hF; exact w_X_append_6 CX o (l_X_append_6 n) ih x1 x3 x4 st hF
def f_X_append (x1 : Int64) (st : fb_S) : Option (Int32 × fb_S) := l_X_append_6 fb_n x1 (0 : Int32) (56 : Int32) st
set_option maxHeartbeats 4000000 in
set_option maxRecDepth 100000 in
theorem w_X_append_0 {p : Program} {l : Launch} {e : Env} {s : State} {m : MethodId} {args : Array Value} {below : List Frame} {meth : Method} {c : Code} {A : Nat → Prop} {dC : Nat → ClassId} {dI : Nat → Nat → Nat} {dA : Nat → ClassId} {a : Nat → Nat} {z : Nat → Nat} (CX : fb_C p s m args meth c kc_X_append (some .boolean) 6 "FileTree$Text" (dC, dI) vcl (tX dA) A (zX z)) (o : Int32 × fb_S) (x1 : Int64) (st : fb_S) (hF : f_X_append x1 st = some o) : fb_G p l e (headSpec kw_X_append rm_X_append).room s m args below meth c (dC, dI) vcl (tX dA) (wX dA a) A (some (.int o.1)) o.2 0 6 [(0, .ref (a 4)), (1, .long x1)] [] st := by
  intro H locs hP hD hS ls hl
  obtain ⟨hx, hb, hr, hml, hown, hts, hK, hA, hlocks, hZ⟩ := id CX
  unfold f_X_append at hF
  refine lv_iconst (v := 0) hx hb kd_X_append_0 (by decide) ?_
  refine lv_istore_n (lv' := [(3, .int (0 : Int32)), (0, .ref (a 4)), (1, .long x1)]) hx hb kd_X_append_1 rfl hl (by decide) rfl (fun ls hl => ?_)
  refine lv_bipush (v := 56) hx hb kd_X_append_2 (by decide) ?_
  refine lv_istore (lv' := [(4, .int (56 : Int32)), (3, .int (0 : Int32)), (0, .ref (a 4)), (1, .long x1)]) hx hb kd_X_append_4 hl (by decide) rfl (fun ls hl => ?_)
  exact v_X_append_6 CX o fb_n x1 (0 : Int32) (56 : Int32) st hF H locs hP hD hS ls (lv_sub hl [2, 3, 1, 0] rfl)
theorem c_X_append (l : Launch) (dC : Nat → ClassId) (dI : Nat → Nat → Nat) (dA : Nat → ClassId) (a : Nat → Nat) (z : Nat → Nat) (x1 : Int64) (st : fb_S) (o : Int32 × fb_S) (h : f_X_append x1 st = some o) : fb_M l ky_X_append kw_X_append rm_X_append (dC, dI) vcl (tX dA) (wX dA a) (zX z) [.ref (a 4), .long x1] (some (.int o.1)) st o.2 := fb_enter (by decide) rfl (Nat.le_of_ble_eq_true rfl) (fun p e s m below meth c A CX hP hD hS ls hl => w_X_append_0 CX o x1 st h s.heap [] hP hD hS ls hl)
abbrev rm_T_write : Room := { frames := 1, cells := 0, slots := 0, locals := 25 }
def f_T_write (x1 : Int64) (st : fb_S) : Option (Int32 × fb_S) := (f_X_append x1 st).bind fun r1 => fb_rz r1.1 r1.2
set_option maxHeartbeats 4000000 in
set_option maxRecDepth 100000 in
theorem w_T_write_0 {p : Program} {l : Launch} {e : Env} {s : State} {m : MethodId} {args : Array Value} {below : List Frame} {meth : Method} {c : Code} {A : Nat → Prop} {dC : Nat → ClassId} {dI : Nat → Nat → Nat} {dA : Nat → ClassId} {a : Nat → Nat} {z : Nat → Nat} (CX : fb_C p s m args meth c kc_T_write (some .boolean) 3 "FileTree" (dC, dI) vcl (tX dA) A (zX z)) (o : Int32 × fb_S) (x1 : Int64) (st : fb_S) (hF : f_T_write x1 st = some o) : fb_G p l e (headSpec kw_T_write rm_T_write).room s m args below meth c (dC, dI) vcl (tX dA) (wX dA a) A (some (.int o.1)) o.2 0 3 [(0, .ref (a 0)), (1, .long x1)] [] st := by
  intro H locs hP hD hS ls hl
  obtain ⟨hx, hb, hr, hml, hown, hts, hK, hA, hlocks, hZ⟩ := id CX
  unfold f_T_write at hF
  refine lv_aload_n hx hb kd_T_write_0 rfl (lv_at hl 0 rfl) ?_
  refine va_get (D := (dC, dI)) (ci := 4) (v := .ref (a 4)) (C := "FileTree") (T := ft_T) (N := 5) hx hb hts fi_T hown hK hP 0 rfl rfl 3 (by decide) (hts _ q_210) (fun _ h9 => h9) rfl kd_T_write_1 ?_
  refine lv_lload_n hx hb kd_T_write_4 rfl (lv_at hl 1 rfl) ?_
  obtain ⟨r1, e_r1, hF⟩ := fb_ob hF
  refine fb_callV (As := [.long x1]) (rest := []) ⟨hx, hb, hml, hown, hts⟩ zX_mv hZ hK hP hD hS hA (c_X_append l dC dI dA a z x1 st r1 e_r1) (cwV 1 hts (gd_V q_227 ko_X_append) rfl rfl rfl kh_X_append ⟨Nat.le_of_ble_eq_true rfl, Nat.le_of_ble_eq_true rfl⟩) 3 4 rfl rfl rfl rfl hl.1 rfl (Nat.le_of_ble_eq_true rfl) kd_T_write_5 ⟨Nat.zero_le _, Nat.zero_le _⟩ (fun H locs hP hD hS => ?_)
  refine W.eq (g2 := F0 m 8 ls [.int r1.1]) rfl ?_
  exact fb_rb (o := o) hx hb hr hlocks hK hP hD hS hF kd_T_write_8
theorem c_T_write (l : Launch) (dC : Nat → ClassId) (dI : Nat → Nat → Nat) (dA : Nat → ClassId) (a : Nat → Nat) (z : Nat → Nat) (x1 : Int64) (st : fb_S) (o : Int32 × fb_S) (h : f_T_write x1 st = some o) : fb_M l ky_T_write kw_T_write rm_T_write (dC, dI) vcl (tX dA) (wX dA a) (zX z) [.ref (a 0), .long x1] (some (.int o.1)) st o.2 := fb_enter (by decide) rfl (Nat.le_of_ble_eq_true rfl) (fun p e s m below meth c A CX hP hD hS ls hl => w_T_write_0 CX o x1 st h s.heap [] hP hD hS ls hl)
abbrev rm_I_inUse : Room := { frames := 2, cells := 0, slots := 0, locals := 45 }
def f_I_inUse (x1 : Int32) (st : fb_S) : Option (Int32 × fb_S) := (f_I_kindOf x1 st).bind fun r1 => (if r1.1 = (0 : Int32) then fb_rz (0 : Int32) r1.2 else fb_rz (1 : Int32) r1.2)
set_option maxHeartbeats 4000000 in
set_option maxRecDepth 100000 in
theorem w_I_inUse_0 {p : Program} {l : Launch} {e : Env} {s : State} {m : MethodId} {args : Array Value} {below : List Frame} {meth : Method} {c : Code} {A : Nat → Prop} {dC : Nat → ClassId} {dI : Nat → Nat → Nat} {dA : Nat → ClassId} {a : Nat → Nat} {z : Nat → Nat} (CX : fb_C p s m args meth c kc_I_inUse (some .boolean) 2 "FileTree$Inodes" (dC, dI) vcl (tX dA) A (zX z)) (o : Int32 × fb_S) (x1 : Int32) (st : fb_S) (hF : f_I_inUse x1 st = some o) : fb_G p l e (headSpec kw_I_inUse rm_I_inUse).room s m args below meth c (dC, dI) vcl (tX dA) (wX dA a) A (some (.int o.1)) o.2 0 2 [(0, .ref (a 2)), (1, .int x1)] [] st := by
  intro H locs hP hD hS ls hl
  obtain ⟨hx, hb, hr, hml, hown, hts, hK, hA, hlocks, hZ⟩ := id CX
  unfold f_I_inUse at hF
  refine lv_aload_n hx hb kd_I_inUse_0 rfl (lv_at hl 0 rfl) ?_
  refine lv_iload_n hx hb kd_I_inUse_1 rfl (lv_at hl 1 rfl) ?_
  obtain ⟨r1, e_r1, hF⟩ := fb_ob hF
  refine fb_callV (As := [.int x1]) (rest := []) ⟨hx, hb, hml, hown, hts⟩ zX_mv hZ hK hP hD hS hA (c_I_kindOf l dC dI dA a z x1 st r1 e_r1) (cwV 1 hts (gd_V q_244 ko_I_kindOf) rfl rfl rfl kh_I_kindOf ⟨Nat.le_of_ble_eq_true rfl, Nat.le_of_ble_eq_true rfl⟩) 2 2 rfl rfl rfl rfl hl.1 rfl (Nat.le_of_ble_eq_true rfl) kd_I_inUse_2 ⟨Nat.zero_le _, Nat.zero_le _⟩ (fun H locs hP hD hS => ?_)
  refine W.eq (g2 := F0 m 5 ls [.int r1.1]) rfl ?_
  refine lv_if_eq (tgt := 12) hx hb kd_I_inUse_5 (by decide) (fun c2 => ?_) (fun c2 => ?_)
  · rw [if_pos c2] at hF
    refine lv_iconst (v := 0) hx hb kd_I_inUse_12 (by decide) ?_
    exact fb_rb (o := o) hx hb hr hlocks hK hP hD hS hF kd_I_inUse_13
  · rw [if_neg c2] at hF
    refine lv_iconst (v := 1) hx hb kd_I_inUse_8 (by decide) ?_
    refine lv_goto (tgt := 13) hx hb kd_I_inUse_9 (by decide) ?_
    exact fb_rb (o := o) hx hb hr hlocks hK hP hD hS hF kd_I_inUse_13
theorem c_I_inUse (l : Launch) (dC : Nat → ClassId) (dI : Nat → Nat → Nat) (dA : Nat → ClassId) (a : Nat → Nat) (z : Nat → Nat) (x1 : Int32) (st : fb_S) (o : Int32 × fb_S) (h : f_I_inUse x1 st = some o) : fb_M l ky_I_inUse kw_I_inUse rm_I_inUse (dC, dI) vcl (tX dA) (wX dA a) (zX z) [.ref (a 2), .int x1] (some (.int o.1)) st o.2 := fb_enter (by decide) rfl (Nat.le_of_ble_eq_true rfl) (fun p e s m below meth c A CX hP hD hS ls hl => w_I_inUse_0 CX o x1 st h s.heap [] hP hD hS ls hl)
abbrev rm_X_byteAt : Room := { frames := 0, cells := 0, slots := 0, locals := 0 }
def f_X_byteAt (x1 : Int32) (st : fb_S) : Option (Int32 × fb_S) := (if x1 < (0 : Int32) then some ((0 : Int32), st) else (if (260 : Int32) ≤ x1 then some ((0 : Int32), st) else (fb_ld (st 2) 260 x1).bind fun v3 => some (v3 &&& (255 : Int32), st)))
set_option maxHeartbeats 4000000 in
set_option maxRecDepth 100000 in
theorem w_X_byteAt_0 {p : Program} {l : Launch} {e : Env} {s : State} {m : MethodId} {args : Array Value} {below : List Frame} {meth : Method} {c : Code} {A : Nat → Prop} {dC : Nat → ClassId} {dI : Nat → Nat → Nat} {dA : Nat → ClassId} {a : Nat → Nat} {z : Nat → Nat} (CX : fb_C p s m args meth c kc_X_byteAt (some .int) 2 "FileTree$Text" (dC, dI) vcl (tX dA) A (zX z)) (o : Int32 × fb_S) (x1 : Int32) (st : fb_S) (hF : f_X_byteAt x1 st = some o) : fb_G p l e (headSpec kw_X_byteAt rm_X_byteAt).room s m args below meth c (dC, dI) vcl (tX dA) (wX dA a) A (some (.int o.1)) o.2 0 2 [(0, .ref (a 4)), (1, .int x1)] [] st := by
  intro H locs hP hD hS ls hl
  obtain ⟨hx, hb, hr, hml, hown, hts, hK, hA, hlocks, hZ⟩ := id CX
  unfold f_X_byteAt at hF
  refine lv_iload_n hx hb kd_X_byteAt_0 rfl (lv_at hl 1 rfl) ?_
  refine lv_if_lt (tgt := 26) hx hb kd_X_byteAt_1 (by decide) (fun c1 => ?_) (fun c1 => ?_)
  · rw [if_pos c1] at hF
    refine lv_iconst (v := 0) hx hb kd_X_byteAt_26 (by decide) ?_
    exact fb_ri (o := o) hx hb hr hlocks hK hP hD hS hF kd_X_byteAt_27
  · rw [if_neg c1] at hF
    refine lv_iload_n hx hb kd_X_byteAt_4 rfl (lv_at hl 1 rfl) ?_
    refine lv_aload_n hx hb kd_X_byteAt_5 rfl (lv_at hl 0 rfl) ?_
    refine va_get (D := (dC, dI)) (ci := 3) (v := .ref (a 7)) (C := "FileTree$Text") (T := ft_X) (N := 4) hx hb hts fi_X hown hK hP 4 rfl rfl 0 (by decide) (hts _ q_64) (fun _ h9 => h9) rfl kd_X_byteAt_6 ?_
    refine va_alen (v := 260) hx hb hK hP 7 1 rfl rfl rfl kd_X_byteAt_9 ?_
    refine lv_icmp_ge (tgt := 26) hx hb kd_X_byteAt_10 (by decide) (fun c2 => ?_) (fun c2 => ?_)
    · rw [if_pos c2] at hF
      refine lv_iconst (v := 0) hx hb kd_X_byteAt_26 (by decide) ?_
      exact fb_ri (o := o) hx hb hr hlocks hK hP hD hS hF kd_X_byteAt_27
    · rw [if_neg c2] at hF
      refine lv_aload_n hx hb kd_X_byteAt_13 rfl (lv_at hl 0 rfl) ?_
      refine va_get (D := (dC, dI)) (ci := 3) (v := .ref (a 7)) (C := "FileTree$Text") (T := ft_X) (N := 4) hx hb hts fi_X hown hK hP 4 rfl rfl 0 (by decide) (hts _ q_64) (fun _ h9 => h9) rfl kd_X_byteAt_14 ?_
      refine lv_iload_n hx hb kd_X_byteAt_17 rfl (lv_at hl 1 rfl) ?_
      obtain ⟨v3, e_v3, hF⟩ := fb_ob hF
      refine fb_bald hx hb hK hP 7 1 rfl rfl e_v3 kd_X_byteAt_18 ?_
      refine lv_sipush (v := 255) hx hb kd_X_byteAt_19 (by decide) ?_
      refine lv_iand hx hb kd_X_byteAt_22 ?_
      refine lv_goto (tgt := 27) hx hb kd_X_byteAt_23 (by decide) ?_
      exact fb_ri (o := o) hx hb hr hlocks hK hP hD hS hF kd_X_byteAt_27
theorem c_X_byteAt (l : Launch) (dC : Nat → ClassId) (dI : Nat → Nat → Nat) (dA : Nat → ClassId) (a : Nat → Nat) (z : Nat → Nat) (x1 : Int32) (st : fb_S) (o : Int32 × fb_S) (h : f_X_byteAt x1 st = some o) : fb_M l ky_X_byteAt kw_X_byteAt rm_X_byteAt (dC, dI) vcl (tX dA) (wX dA a) (zX z) [.ref (a 4), .int x1] (some (.int o.1)) st o.2 := fb_enter (by decide) rfl (Nat.le_of_ble_eq_true rfl) (fun p e s m below meth c A CX hP hD hS ls hl => w_X_byteAt_0 CX o x1 st h s.heap [] hP hD hS ls hl)
abbrev rm_X_isPath : Room := { frames := 1, cells := 0, slots := 0, locals := 21 }
def b_X_isPath_18 (k18 : Int32 → Int32 → fb_S → Option (Int32 × fb_S)) (x2 : Int32) (x3 : Int32) (st : fb_S) : Option (Int32 × fb_S) := (if x2 ≤ x3 then fb_rz (1 : Int32) st else (f_X_byteAt x3 st).bind fun r2 => (if r2.1 = (32 : Int32) then fb_rz (0 : Int32) r2.2 else k18 x2 (x3 + (1 : Int32)) r2.2))
set_option maxHeartbeats 4000000 in
set_option maxRecDepth 100000 in
theorem w_X_isPath_18 {p : Program} {l : Launch} {e : Env} {s : State} {m : MethodId} {args : Array Value} {below : List Frame} {meth : Method} {c : Code} {A : Nat → Prop} {dC : Nat → ClassId} {dI : Nat → Nat → Nat} {dA : Nat → ClassId} {a : Nat → Nat} {z : Nat → Nat} (CX : fb_C p s m args meth c kc_X_isPath (some .boolean) 4 "FileTree$Text" (dC, dI) vcl (tX dA) A (zX z)) (o : Int32 × fb_S) (k18 : Int32 → Int32 → fb_S → Option (Int32 × fb_S)) (hk18 : ∀ (x2 : Int32) (x3 : Int32) (st : fb_S), k18 x2 x3 st = some o → fb_G p l e (headSpec kw_X_isPath rm_X_isPath).room s m args below meth c (dC, dI) vcl (tX dA) (wX dA a) A (some (.int o.1)) o.2 18 4 [(0, .ref (a 4)), (2, .int x2), (3, .int x3)] [] st) (x2 : Int32) (x3 : Int32) (st : fb_S) (hF : b_X_isPath_18 k18 x2 x3 st = some o) : fb_G p l e (headSpec kw_X_isPath rm_X_isPath).room s m args below meth c (dC, dI) vcl (tX dA) (wX dA a) A (some (.int o.1)) o.2 18 4 [(0, .ref (a 4)), (2, .int x2), (3, .int x3)] [] st := by
  intro H locs hP hD hS ls hl
  obtain ⟨hx, hb, hr, hml, hown, hts, hK, hA, hlocks, hZ⟩ := id CX
  unfold b_X_isPath_18 at hF
  refine lv_iload_n hx hb kd_X_isPath_18 rfl (lv_at hl 2 rfl) ?_
  refine lv_iload_n hx hb kd_X_isPath_19 rfl (lv_at hl 1 rfl) ?_
  refine lv_icmp_ge (tgt := 41) hx hb kd_X_isPath_20 (by decide) (fun c1 => ?_) (fun c1 => ?_)
  · rw [if_pos c1] at hF
    refine lv_iconst (v := 1) hx hb kd_X_isPath_41 (by decide) ?_
    exact fb_rb (o := o) hx hb hr hlocks hK hP hD hS hF kd_X_isPath_42
  · rw [if_neg c1] at hF
    refine lv_aload_n hx hb kd_X_isPath_23 rfl (lv_at hl 0 rfl) ?_
    refine lv_iload_n hx hb kd_X_isPath_24 rfl (lv_at hl 2 rfl) ?_
    obtain ⟨r2, e_r2, hF⟩ := fb_ob hF
    refine fb_callV (As := [.int x3]) (rest := []) ⟨hx, hb, hml, hown, hts⟩ zX_mv hZ hK hP hD hS hA (c_X_byteAt l dC dI dA a z x3 st r2 e_r2) (cwV 1 hts (gd_V q_249 ko_X_byteAt) rfl rfl rfl kh_X_byteAt ⟨Nat.le_of_ble_eq_true rfl, Nat.le_of_ble_eq_true rfl⟩) 3 4 rfl rfl rfl rfl hl.1 rfl (Nat.le_of_ble_eq_true rfl) kd_X_isPath_25 ⟨Nat.zero_le _, Nat.zero_le _⟩ (fun H locs hP hD hS => ?_)
    refine W.eq (g2 := F0 m 28 ls [.int r2.1]) rfl ?_
    refine lv_bipush (v := 32) hx hb kd_X_isPath_28 (by decide) ?_
    refine lv_icmp_ne (tgt := 35) hx hb kd_X_isPath_30 (by decide) (fun c3 => ?_) (fun c3 => ?_)
    · rw [if_neg c3] at hF
      refine lv_iinc (v := x3 + (1 : Int32)) (lv' := [(3, .int (x3 + (1 : Int32))), (0, .ref (a 4)), (2, .int x2)]) hx hb kd_X_isPath_35 hl (k := 2) rfl rfl (by decide) rfl (fun ls hl => ?_)
      refine lv_goto (tgt := 18) hx hb kd_X_isPath_38 (by decide) ?_
      exact hk18 x2 (x3 + (1 : Int32)) r2.2 hF H locs hP hD hS ls (lv_sub hl [1, 2, 0] rfl)
    · rw [if_pos c3] at hF
      refine lv_iconst (v := 0) hx hb kd_X_isPath_33 (by decide) ?_
      exact fb_rb (o := o) hx hb hr hlocks hK hP hD hS hF kd_X_isPath_34
def l_X_isPath_18 : Nat → Int32 → Int32 → fb_S → Option (Int32 × fb_S)
  | 0 => fun _ _ _ => none
  | n + 1 => b_X_isPath_18 (l_X_isPath_18 n)
theorem v_X_isPath_18 {p : Program} {l : Launch} {e : Env} {s : State} {m : MethodId} {args : Array Value} {below : List Frame} {meth : Method} {c : Code} {A : Nat → Prop} {dC : Nat → ClassId} {dI : Nat → Nat → Nat} {dA : Nat → ClassId} {a : Nat → Nat} {z : Nat → Nat} (CX : fb_C p s m args meth c kc_X_isPath (some .boolean) 4 "FileTree$Text" (dC, dI) vcl (tX dA) A (zX z)) (o : Int32 × fb_S) (n : Nat) : ∀ (x2 : Int32) (x3 : Int32) (st : fb_S), l_X_isPath_18 n x2 x3 st = some o → fb_G p l e (headSpec kw_X_isPath rm_X_isPath).room s m args below meth c (dC, dI) vcl (tX dA) (wX dA a) A (some (.int o.1)) o.2 18 4 [(0, .ref (a 4)), (2, .int x2), (3, .int x3)] [] st := by
  induction n with
  | zero => intro x2 x3 st hF; cases hF
  | succ n ih => intro x2 x3 st hF; exact w_X_isPath_18 CX o (l_X_isPath_18 n) ih x2 x3 st hF
def f_X_isPath (x1 : Int32) (x2 : Int32) (st : fb_S) : Option (Int32 × fb_S) := (if x2 < x1 then fb_rz (0 : Int32) st else (if (x2 - x1) ≤ (128 : Int32) then l_X_isPath_18 fb_n x2 x1 st else fb_rz (0 : Int32) st))
set_option maxHeartbeats 4000000 in
set_option maxRecDepth 100000 in
theorem w_X_isPath_0 {p : Program} {l : Launch} {e : Env} {s : State} {m : MethodId} {args : Array Value} {below : List Frame} {meth : Method} {c : Code} {A : Nat → Prop} {dC : Nat → ClassId} {dI : Nat → Nat → Nat} {dA : Nat → ClassId} {a : Nat → Nat} {z : Nat → Nat} (CX : fb_C p s m args meth c kc_X_isPath (some .boolean) 4 "FileTree$Text" (dC, dI) vcl (tX dA) A (zX z)) (o : Int32 × fb_S) (x1 : Int32) (x2 : Int32) (st : fb_S) (hF : f_X_isPath x1 x2 st = some o) : fb_G p l e (headSpec kw_X_isPath rm_X_isPath).room s m args below meth c (dC, dI) vcl (tX dA) (wX dA a) A (some (.int o.1)) o.2 0 4 [(0, .ref (a 4)), (1, .int x1), (2, .int x2)] [] st := by
  intro H locs hP hD hS ls hl
  obtain ⟨hx, hb, hr, hml, hown, hts, hK, hA, hlocks, hZ⟩ := id CX
  unfold f_X_isPath at hF
  refine lv_iload_n hx hb kd_X_isPath_0 rfl (lv_at hl 2 rfl) ?_
  refine lv_iload_n hx hb kd_X_isPath_1 rfl (lv_at hl 1 rfl) ?_
  refine lv_icmp_lt (tgt := 14) hx hb kd_X_isPath_2 (by decide) (fun c1 => ?_) (fun c1 => ?_)
  · rw [if_pos c1] at hF
    refine lv_iconst (v := 0) hx hb kd_X_isPath_14 (by decide) ?_
    exact fb_rb (o := o) hx hb hr hlocks hK hP hD hS hF kd_X_isPath_15
  · rw [if_neg c1] at hF
    refine lv_iload_n hx hb kd_X_isPath_5 rfl (lv_at hl 2 rfl) ?_
    refine lv_iload_n hx hb kd_X_isPath_6 rfl (lv_at hl 1 rfl) ?_
    refine lv_isub hx hb kd_X_isPath_7 ?_
    refine lv_sipush (v := 128) hx hb kd_X_isPath_8 (by decide) ?_
    refine lv_icmp_le (tgt := 16) hx hb kd_X_isPath_11 (by decide) (fun c2 => ?_) (fun c2 => ?_)
    · rw [if_pos c2] at hF
      refine lv_iload_n hx hb kd_X_isPath_16 rfl (lv_at hl 1 rfl) ?_
      refine lv_istore_n (lv' := [(3, .int x1), (0, .ref (a 4)), (1, .int x1), (2, .int x2)]) hx hb kd_X_isPath_17 rfl hl (by decide) rfl (fun ls hl => ?_)
      exact v_X_isPath_18 CX o fb_n x2 x1 st hF H locs hP hD hS ls (lv_sub hl [1, 3, 0] rfl)
    · rw [if_neg c2] at hF
      refine lv_iconst (v := 0) hx hb kd_X_isPath_14 (by decide) ?_
      exact fb_rb (o := o) hx hb hr hlocks hK hP hD hS hF kd_X_isPath_15
theorem c_X_isPath (l : Launch) (dC : Nat → ClassId) (dI : Nat → Nat → Nat) (dA : Nat → ClassId) (a : Nat → Nat) (z : Nat → Nat) (x1 : Int32) (x2 : Int32) (st : fb_S) (o : Int32 × fb_S) (h : f_X_isPath x1 x2 st = some o) : fb_M l ky_X_isPath kw_X_isPath rm_X_isPath (dC, dI) vcl (tX dA) (wX dA a) (zX z) [.ref (a 4), .int x1, .int x2] (some (.int o.1)) st o.2 := fb_enter (by decide) rfl (Nat.le_of_ble_eq_true rfl) (fun p e s m below meth c A CX hP hD hS ls hl => w_X_isPath_0 CX o x1 x2 st h s.heap [] hP hD hS ls hl)
abbrev rm_X_nameBegins : Room := { frames := 1, cells := 0, slots := 0, locals := 21 }
def b_X_nameBegins_27 (st : fb_S) : Option (Int32 × fb_S) := fb_rz (1 : Int32) st
set_option maxHeartbeats 4000000 in
set_option maxRecDepth 100000 in
theorem w_X_nameBegins_27 {p : Program} {l : Launch} {e : Env} {s : State} {m : MethodId} {args : Array Value} {below : List Frame} {meth : Method} {c : Code} {A : Nat → Prop} {dC : Nat → ClassId} {dI : Nat → Nat → Nat} {dA : Nat → ClassId} {a : Nat → Nat} {z : Nat → Nat} (CX : fb_C p s m args meth c kc_X_nameBegins (some .boolean) 3 "FileTree$Text" (dC, dI) vcl (tX dA) A (zX z)) (o : Int32 × fb_S) (st : fb_S) (hF : b_X_nameBegins_27 st = some o) : fb_G p l e (headSpec kw_X_nameBegins rm_X_nameBegins).room s m args below meth c (dC, dI) vcl (tX dA) (wX dA a) A (some (.int o.1)) o.2 27 3 [] [] st := by
  intro H locs hP hD hS ls hl
  obtain ⟨hx, hb, hr, hml, hown, hts, hK, hA, hlocks, hZ⟩ := id CX
  unfold b_X_nameBegins_27 at hF
  refine lv_iconst (v := 1) hx hb kd_X_nameBegins_27 (by decide) ?_
  refine lv_goto (tgt := 32) hx hb kd_X_nameBegins_28 (by decide) ?_
  exact fb_rb (o := o) hx hb hr hlocks hK hP hD hS hF kd_X_nameBegins_32
def f_X_nameBegins (x1 : Int32) (x2 : Int32) (st : fb_S) : Option (Int32 × fb_S) := (f_X_byteAt x2 st).bind fun r1 => (if r1.1 = (47 : Int32) then fb_rz (0 : Int32) r1.2 else (if x2 = x1 then b_X_nameBegins_27 r1.2 else (f_X_byteAt (x2 - (1 : Int32)) r1.2).bind fun r4 => (if r4.1 = (47 : Int32) then b_X_nameBegins_27 r4.2 else fb_rz (0 : Int32) r4.2)))
set_option maxHeartbeats 4000000 in
set_option maxRecDepth 100000 in
theorem w_X_nameBegins_0 {p : Program} {l : Launch} {e : Env} {s : State} {m : MethodId} {args : Array Value} {below : List Frame} {meth : Method} {c : Code} {A : Nat → Prop} {dC : Nat → ClassId} {dI : Nat → Nat → Nat} {dA : Nat → ClassId} {a : Nat → Nat} {z : Nat → Nat} (CX : fb_C p s m args meth c kc_X_nameBegins (some .boolean) 3 "FileTree$Text" (dC, dI) vcl (tX dA) A (zX z)) (o : Int32 × fb_S) (x1 : Int32) (x2 : Int32) (st : fb_S) (hF : f_X_nameBegins x1 x2 st = some o) : fb_G p l e (headSpec kw_X_nameBegins rm_X_nameBegins).room s m args below meth c (dC, dI) vcl (tX dA) (wX dA a) A (some (.int o.1)) o.2 0 3 [(0, .ref (a 4)), (1, .int x1), (2, .int x2)] [] st := by
  intro H locs hP hD hS ls hl
  obtain ⟨hx, hb, hr, hml, hown, hts, hK, hA, hlocks, hZ⟩ := id CX
  unfold f_X_nameBegins at hF
  refine lv_aload_n hx hb kd_X_nameBegins_0 rfl (lv_at hl 0 rfl) ?_
  refine lv_iload_n hx hb kd_X_nameBegins_1 rfl (lv_at hl 2 rfl) ?_
  obtain ⟨r1, e_r1, hF⟩ := fb_ob hF
  refine fb_callV (As := [.int x2]) (rest := []) ⟨hx, hb, hml, hown, hts⟩ zX_mv hZ hK hP hD hS hA (c_X_byteAt l dC dI dA a z x2 st r1 e_r1) (cwV 1 hts (gd_V q_249 ko_X_byteAt) rfl rfl rfl kh_X_byteAt ⟨Nat.le_of_ble_eq_true rfl, Nat.le_of_ble_eq_true rfl⟩) 3 4 rfl rfl rfl rfl hl.1 rfl (Nat.le_of_ble_eq_true rfl) kd_X_nameBegins_2 ⟨Nat.zero_le _, Nat.zero_le _⟩ (fun H locs hP hD hS => ?_)
  refine W.eq (g2 := F0 m 5 ls [.int r1.1]) rfl ?_
  refine lv_bipush (v := 47) hx hb kd_X_nameBegins_5 (by decide) ?_
  refine lv_icmp_eq (tgt := 31) hx hb kd_X_nameBegins_7 (by decide) (fun c2 => ?_) (fun c2 => ?_)
  · rw [if_pos c2] at hF
    refine lv_iconst (v := 0) hx hb kd_X_nameBegins_31 (by decide) ?_
    exact fb_rb (o := o) hx hb hr hlocks hK hP hD hS hF kd_X_nameBegins_32
  · rw [if_neg c2] at hF
    refine lv_iload_n hx hb kd_X_nameBegins_10 rfl (lv_at hl 2 rfl) ?_
    refine lv_iload_n hx hb kd_X_nameBegins_11 rfl (lv_at hl 1 rfl) ?_
    refine lv_icmp_eq (tgt := 27) hx hb kd_X_nameBegins_12 (by decide) (fun c3 => ?_) (fun c3 => ?_)
    · rw [if_pos c3] at hF
      exact w_X_nameBegins_27 CX o r1.2 hF H locs hP hD hS ls (lv_sub hl [] rfl)
    · rw [if_neg c3] at hF
      refine lv_aload_n hx hb kd_X_nameBegins_15 rfl (lv_at hl 0 rfl) ?_
      refine lv_iload_n hx hb kd_X_nameBegins_16 rfl (lv_at hl 2 rfl) ?_
      refine lv_iconst (v := 1) hx hb kd_X_nameBegins_17 (by decide) ?_
      refine lv_isub hx hb kd_X_nameBegins_18 ?_
      obtain ⟨r4, e_r4, hF⟩ := fb_ob hF
      refine fb_callV (As := [.int (x2 - (1 : Int32))]) (rest := []) ⟨hx, hb, hml, hown, hts⟩ zX_mv hZ hK hP hD hS hA (c_X_byteAt l dC dI dA a z (x2 - (1 : Int32)) r1.2 r4 e_r4) (cwV 1 hts (gd_V q_249 ko_X_byteAt) rfl rfl rfl kh_X_byteAt ⟨Nat.le_of_ble_eq_true rfl, Nat.le_of_ble_eq_true rfl⟩) 3 4 rfl rfl rfl rfl hl.1 rfl (Nat.le_of_ble_eq_true rfl) kd_X_nameBegins_19 ⟨Nat.zero_le _, Nat.zero_le _⟩ (fun H locs hP hD hS => ?_)
      refine W.eq (g2 := F0 m 22 ls [.int r4.1]) rfl ?_
      refine lv_bipush (v := 47) hx hb kd_X_nameBegins_22 (by decide) ?_
      refine lv_icmp_ne (tgt := 31) hx hb kd_X_nameBegins_24 (by decide) (fun c5 => ?_) (fun c5 => ?_)
      · rw [if_neg c5] at hF
        refine lv_iconst (v := 0) hx hb kd_X_nameBegins_31 (by decide) ?_
        exact fb_rb (o := o) hx hb hr hlocks hK hP hD hS hF kd_X_nameBegins_32
      · rw [if_pos c5] at hF
        exact w_X_nameBegins_27 CX o r4.2 hF H locs hP hD hS ls (lv_sub hl [] rfl)
theorem c_X_nameBegins (l : Launch) (dC : Nat → ClassId) (dI : Nat → Nat → Nat) (dA : Nat → ClassId) (a : Nat → Nat) (z : Nat → Nat) (x1 : Int32) (x2 : Int32) (st : fb_S) (o : Int32 × fb_S) (h : f_X_nameBegins x1 x2 st = some o) : fb_M l ky_X_nameBegins kw_X_nameBegins rm_X_nameBegins (dC, dI) vcl (tX dA) (wX dA a) (zX z) [.ref (a 4), .int x1, .int x2] (some (.int o.1)) st o.2 := fb_enter (by decide) rfl (Nat.le_of_ble_eq_true rfl) (fun p e s m below meth c A CX hP hD hS ls hl => w_X_nameBegins_0 CX o x1 x2 st h s.heap [] hP hD hS ls hl)
