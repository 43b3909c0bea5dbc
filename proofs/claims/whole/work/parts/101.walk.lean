abbrev rm_I_sizeOf : Room := { frames := 1, cells := 0, slots := 0, locals := 22 }
def f_I_sizeOf (x1 : Int32) (st : fb_S) : Option (Int32 × fb_S) := (f_I_isInode x1 st).bind fun r1 => (if r1.1 = (0 : Int32) then some ((0 : Int32), r1.2) else (f_I_placeOf x1 r1.2).bind fun r3 => (f_K_numberAt (r3.1 + (8 : Int32)) r3.2).bind fun r4 => some (r4.1, r4.2))
set_option maxHeartbeats 4000000 in
set_option maxRecDepth 100000 in
theorem w_I_sizeOf_0 {p : Program} {l : Launch} {e : Env} {s : State} {m : MethodId} {args : Array Value} {below : List Frame} {meth : Method} {c : Code} {A : Nat → Prop} {dC : Nat → ClassId} {dI : Nat → Nat → Nat} {dA : Nat → ClassId} {a : Nat → Nat} {z : Nat → Nat} (CX : fb_C p s m args meth c kc_I_sizeOf (some .int) 2 "FileTree$Inodes" (dC, dI) vcl (tX dA) A (zX z)) (o : Int32 × fb_S) (x1 : Int32) (st : fb_S) (hF : f_I_sizeOf x1 st = some o) : fb_G p l e (headSpec kw_I_sizeOf rm_I_sizeOf).room s m args below meth c (dC, dI) vcl (tX dA) (wX dA a) A (some (.int o.1)) o.2 0 2 [(0, .ref (a 2)), (1, .int x1)] [] st := by
  intro H locs hP hD hS ls hl
  obtain ⟨hx, hb, hr, hml, hown, hts, hK, hA, hlocks, hZ⟩ := id CX
  unfold f_I_sizeOf at hF
  refine lv_aload_n hx hb kd_I_sizeOf_0 rfl (lv_at hl 0 rfl) ?_
  refine lv_iload_n hx hb kd_I_sizeOf_1 rfl (lv_at hl 1 rfl) ?_
  obtain ⟨r1, e_r1, hF⟩ := fb_ob hF
  refine fb_callV (As := [.int x1]) (rest := []) ⟨hx, hb, hml, hown, hts⟩ zX_mv hZ hK hP hD hS hA (c_I_isInode l dC dI dA a z x1 st r1 e_r1) (cwV 1 hts (gd_V q_108 ko_I_isInode) rfl rfl rfl kh_I_isInode ⟨Nat.le_of_ble_eq_true rfl, Nat.le_of_ble_eq_true rfl⟩) 2 2 rfl rfl rfl rfl hl.1 rfl (Nat.le_of_ble_eq_true rfl) kd_I_sizeOf_2 ⟨Nat.zero_le _, Nat.zero_le _⟩ (fun H locs hP hD hS => ?_)
  refine W.eq (g2 := F0 m 5 ls [.int r1.1]) rfl ?_
  refine lv_if_eq (tgt := 26) hx hb kd_I_sizeOf_5 (by decide) (fun c2 => ?_) (fun c2 => ?_)
  · rw [if_pos c2] at hF
    refine lv_iconst (v := 0) hx hb kd_I_sizeOf_26 (by decide) ?_
    exact fb_ri (o := o) hx hb hr hlocks hK hP hD hS hF kd_I_sizeOf_27
  · rw [if_neg c2] at hF
    refine lv_aload_n hx hb kd_I_sizeOf_8 rfl (lv_at hl 0 rfl) ?_
    refine va_get (D := (dC, dI)) (ci := 2) (v := .ref (a 3)) (C := "FileTree$Inodes") (T := ft_I) (N := 2) hx hb hts fi_I hown hK hP 2 rfl rfl 0 (by decide) (hts _ q_41) (fun _ h9 => h9) rfl kd_I_sizeOf_9 ?_
    refine lv_aload_n hx hb kd_I_sizeOf_12 rfl (lv_at hl 0 rfl) ?_
    refine lv_iload_n hx hb kd_I_sizeOf_13 rfl (lv_at hl 1 rfl) ?_
    obtain ⟨r3, e_r3, hF⟩ := fb_ob hF
    refine fb_callV (As := [.int x1]) (rest := [.ref (a 3)]) ⟨hx, hb, hml, hown, hts⟩ zX_mv hZ hK hP hD hS hA (c_I_placeOf l dC dI dA a z x1 r1.2 r3 e_r3) (cwV 1 hts (gd_V q_112 ko_I_placeOf) rfl rfl rfl kh_I_placeOf ⟨Nat.le_of_ble_eq_true rfl, Nat.le_of_ble_eq_true rfl⟩) 2 2 rfl rfl rfl rfl hl.1 rfl (Nat.le_of_ble_eq_true rfl) kd_I_sizeOf_14 ⟨Nat.zero_le _, Nat.zero_le _⟩ (fun H locs hP hD hS => ?_)
    refine W.eq (g2 := F0 m 17 ls [.int r3.1, .ref (a 3)]) rfl ?_
    refine lv_bipush (v := 8) hx hb kd_I_sizeOf_17 (by decide) ?_
    refine lv_iadd hx hb kd_I_sizeOf_19 ?_
    obtain ⟨r4, e_r4, hF⟩ := fb_ob hF
    refine fb_callV (As := [.int (r3.1 + (8 : Int32))]) (rest := []) ⟨hx, hb, hml, hown, hts⟩ zX_mv hZ hK hP hD hS hA (c_K_numberAt l dC dI dA a z (r3.1 + (8 : Int32)) r3.2 r4 e_r4) (cwV 1 hts (gd_V q_146 ko_K_numberAt) rfl rfl rfl kh_K_numberAt ⟨Nat.le_of_ble_eq_true rfl, Nat.le_of_ble_eq_true rfl⟩) 1 3 rfl rfl rfl rfl hl.1 rfl (Nat.le_of_ble_eq_true rfl) kd_I_sizeOf_20 ⟨Nat.zero_le _, Nat.zero_le _⟩ (fun H locs hP hD hS => ?_)
    refine W.eq (g2 := F0 m 23 ls [.int r4.1]) rfl ?_
    refine lv_goto (tgt := 27) hx hb kd_I_sizeOf_23 (by decide) ?_
    exact fb_ri (o := o) hx hb hr hlocks hK hP hD hS hF kd_I_sizeOf_27
theorem c_I_sizeOf (l : Launch) (dC : Nat → ClassId) (dI : Nat → Nat → Nat) (dA : Nat → ClassId) (a : Nat → Nat) (z : Nat → Nat) (x1 : Int32) (st : fb_S) (o : Int32 × fb_S) (h : f_I_sizeOf x1 st = some o) : fb_M l ky_I_sizeOf kw_I_sizeOf rm_I_sizeOf (dC, dI) vcl (tX dA) (wX dA a) (zX z) [.ref (a 2), .int x1] (some (.int o.1)) st o.2 := fb_enter (by decide) rfl (Nat.le_of_ble_eq_true rfl) (fun p e s m below meth c A CX hP hD hS ls hl => w_I_sizeOf_0 CX o x1 st h s.heap [] hP hD hS ls hl)
abbrev rm_D_sizeOf : Room := { frames := 2, cells := 0, slots := 0, locals := 45 }
def f_D_sizeOf (x1 : Int32) (st : fb_S) : Option (Int32 × fb_S) := (f_I_kindOf x1 st).bind fun r1 => (if r1.1 = (1 : Int32) then (f_I_sizeOf x1 r1.2).bind fun r3 => some (r3.1, r3.2) else some ((0 : Int32), r1.2))
set_option maxHeartbeats 4000000 in
set_option maxRecDepth 100000 in
theorem w_D_sizeOf_0 {p : Program} {l : Launch} {e : Env} {s : State} {m : MethodId} {args : Array Value} {below : List Frame} {meth : Method} {c : Code} {A : Nat → Prop} {dC : Nat → ClassId} {dI : Nat → Nat → Nat} {dA : Nat → ClassId} {a : Nat → Nat} {z : Nat → Nat} (CX : fb_C p s m args meth c kc_D_sizeOf (some .int) 2 "FileTree$Directories" (dC, dI) vcl (tX dA) A (zX z)) (o : Int32 × fb_S) (x1 : Int32) (st : fb_S) (hF : f_D_sizeOf x1 st = some o) : fb_G p l e (headSpec kw_D_sizeOf rm_D_sizeOf).room s m args below meth c (dC, dI) vcl (tX dA) (wX dA a) A (some (.int o.1)) o.2 0 2 [(0, .ref (a 1)), (1, .int x1)] [] st := by
  intro H locs hP hD hS ls hl
  obtain ⟨hx, hb, hr, hml, hown, hts, hK, hA, hlocks, hZ⟩ := id CX
  unfold f_D_sizeOf at hF
  refine lv_aload_n hx hb kd_D_sizeOf_0 rfl (lv_at hl 0 rfl) ?_
  refine va_get (D := (dC, dI)) (ci := 0) (v := .ref (a 2)) (C := "FileTree$Directories") (T := ft_D) (N := 2) hx hb hts fi_D hown hK hP 1 rfl rfl 0 (by decide) (hts _ q_50) (fun _ h9 => h9) rfl kd_D_sizeOf_1 ?_
  refine lv_iload_n hx hb kd_D_sizeOf_4 rfl (lv_at hl 1 rfl) ?_
  obtain ⟨r1, e_r1, hF⟩ := fb_ob hF
  refine fb_callV (As := [.int x1]) (rest := []) ⟨hx, hb, hml, hown, hts⟩ zX_mv hZ hK hP hD hS hA (c_I_kindOf l dC dI dA a z x1 st r1 e_r1) (cwV 1 hts (gd_V q_137 ko_I_kindOf) rfl rfl rfl kh_I_kindOf ⟨Nat.le_of_ble_eq_true rfl, Nat.le_of_ble_eq_true rfl⟩) 2 2 rfl rfl rfl rfl hl.1 rfl (Nat.le_of_ble_eq_true rfl) kd_D_sizeOf_5 ⟨Nat.zero_le _, Nat.zero_le _⟩ (fun H locs hP hD hS => ?_)
  refine W.eq (g2 := F0 m 8 ls [.int r1.1]) rfl ?_
  refine lv_iconst (v := 1) hx hb kd_D_sizeOf_8 (by decide) ?_
  refine lv_icmp_ne (tgt := 23) hx hb kd_D_sizeOf_9 (by decide) (fun c2 => ?_) (fun c2 => ?_)
  · rw [if_neg c2] at hF
    refine lv_iconst (v := 0) hx hb kd_D_sizeOf_23 (by decide) ?_
    exact fb_ri (o := o) hx hb hr hlocks hK hP hD hS hF kd_D_sizeOf_24
  · rw [if_pos c2] at hF
    refine lv_aload_n hx hb kd_D_sizeOf_12 rfl (lv_at hl 0 rfl) ?_
    refine va_get (D := (dC, dI)) (ci := 0) (v := .ref (a 2)) (C := "FileTree$Directories") (T := ft_D) (N := 2) hx hb hts fi_D hown hK hP 1 rfl rfl 0 (by decide) (hts _ q_50) (fun _ h9 => h9) rfl kd_D_sizeOf_13 ?_
    refine lv_iload_n hx hb kd_D_sizeOf_16 rfl (lv_at hl 1 rfl) ?_
    obtain ⟨r3, e_r3, hF⟩ := fb_ob hF
    refine fb_callV (As := [.int x1]) (rest := []) ⟨hx, hb, hml, hown, hts⟩ zX_mv hZ hK hP hD hS hA (c_I_sizeOf l dC dI dA a z x1 r1.2 r3 e_r3) (cwV 1 hts (gd_V q_142 ko_I_sizeOf) rfl rfl rfl kh_I_sizeOf ⟨Nat.le_of_ble_eq_true rfl, Nat.le_of_ble_eq_true rfl⟩) 2 2 rfl rfl rfl rfl hl.1 rfl (Nat.le_of_ble_eq_true rfl) kd_D_sizeOf_17 ⟨Nat.zero_le _, Nat.zero_le _⟩ (fun H locs hP hD hS => ?_)
    refine W.eq (g2 := F0 m 20 ls [.int r3.1]) rfl ?_
    refine lv_goto (tgt := 24) hx hb kd_D_sizeOf_20 (by decide) ?_
    exact fb_ri (o := o) hx hb hr hlocks hK hP hD hS hF kd_D_sizeOf_24
theorem c_D_sizeOf (l : Launch) (dC : Nat → ClassId) (dI : Nat → Nat → Nat) (dA : Nat → ClassId) (a : Nat → Nat) (z : Nat → Nat) (x1 : Int32) (st : fb_S) (o : Int32 × fb_S) (h : f_D_sizeOf x1 st = some o) : fb_M l ky_D_sizeOf kw_D_sizeOf rm_D_sizeOf (dC, dI) vcl (tX dA) (wX dA a) (zX z) [.ref (a 1), .int x1] (some (.int o.1)) st o.2 := fb_enter (by decide) rfl (Nat.le_of_ble_eq_true rfl) (fun p e s m below meth c A CX hP hD hS ls hl => w_D_sizeOf_0 CX o x1 st h s.heap [] hP hD hS ls hl)
abbrev rm_I_slotOf : Room := { frames := 1, cells := 0, slots := 0, locals := 22 }
def f_I_slotOf (x1 : Int32) (x2 : Int32) (st : fb_S) : Option (Int32 × fb_S) := (f_I_isInode x1 st).bind fun r1 => (if r1.1 = (0 : Int32) then some ((-1 : Int32), r1.2) else (if x2 < (0 : Int32) then some ((-1 : Int32), r1.2) else (if x2 < (268 : Int32) then (if (12 : Int32) ≤ x2 then (f_I_placeOf x1 r1.2).bind fun r6 => (f_K_numberAt (r6.1 + (60 : Int32)) r6.2).bind fun r7 => (if r7.1 = (0 : Int32) then some ((-1 : Int32), r7.2) else some ((r7.1 * (1024 : Int32)) + ((4 : Int32) * (x2 - (12 : Int32))), r7.2)) else (f_I_placeOf x1 r1.2).bind fun r9 => some ((r9.1 + (12 : Int32)) + ((4 : Int32) * x2), r9.2)) else some ((-1 : Int32), r1.2))))
set_option maxHeartbeats 4000000 in
set_option maxRecDepth 100000 in
theorem w_I_slotOf_0 {p : Program} {l : Launch} {e : Env} {s : State} {m : MethodId} {args : Array Value} {below : List Frame} {meth : Method} {c : Code} {A : Nat → Prop} {dC : Nat → ClassId} {dI : Nat → Nat → Nat} {dA : Nat → ClassId} {a : Nat → Nat} {z : Nat → Nat} (CX : fb_C p s m args meth c kc_I_slotOf (some .int) 4 "FileTree$Inodes" (dC, dI) vcl (tX dA) A (zX z)) (o : Int32 × fb_S) (x1 : Int32) (x2 : Int32) (st : fb_S) (hF : f_I_slotOf x1 x2 st = some o) : fb_G p l e (headSpec kw_I_slotOf rm_I_slotOf).room s m args below meth c (dC, dI) vcl (tX dA) (wX dA a) A (some (.int o.1)) o.2 0 4 [(0, .ref (a 2)), (1, .int x1), (2, .int x2)] [] st := by
  intro H locs hP hD hS ls hl
  obtain ⟨hx, hb, hr, hml, hown, hts, hK, hA, hlocks, hZ⟩ := id CX
  unfold f_I_slotOf at hF
  refine lv_aload_n hx hb kd_I_slotOf_0 rfl (lv_at hl 0 rfl) ?_
  refine lv_iload_n hx hb kd_I_slotOf_1 rfl (lv_at hl 1 rfl) ?_
  obtain ⟨r1, e_r1, hF⟩ := fb_ob hF
  refine fb_callV (As := [.int x1]) (rest := []) ⟨hx, hb, hml, hown, hts⟩ zX_mv hZ hK hP hD hS hA (c_I_isInode l dC dI dA a z x1 st r1 e_r1) (cwV 1 hts (gd_V q_108 ko_I_isInode) rfl rfl rfl kh_I_isInode ⟨Nat.le_of_ble_eq_true rfl, Nat.le_of_ble_eq_true rfl⟩) 2 2 rfl rfl rfl rfl hl.1 rfl (Nat.le_of_ble_eq_true rfl) kd_I_slotOf_2 ⟨Nat.zero_le _, Nat.zero_le _⟩ (fun H locs hP hD hS => ?_)
  refine W.eq (g2 := F0 m 5 ls [.int r1.1]) rfl ?_
  refine lv_if_eq (tgt := 19) hx hb kd_I_slotOf_5 (by decide) (fun c2 => ?_) (fun c2 => ?_)
  · rw [if_pos c2] at hF
    refine lv_iconst (v := (-1)) hx hb kd_I_slotOf_19 (by decide) ?_
    exact fb_ri (o := o) hx hb hr hlocks hK hP hD hS hF kd_I_slotOf_20
  · rw [if_neg c2] at hF
    refine lv_iload_n hx hb kd_I_slotOf_8 rfl (lv_at hl 2 rfl) ?_
    refine lv_if_lt (tgt := 19) hx hb kd_I_slotOf_9 (by decide) (fun c3 => ?_) (fun c3 => ?_)
    · rw [if_pos c3] at hF
      refine lv_iconst (v := (-1)) hx hb kd_I_slotOf_19 (by decide) ?_
      exact fb_ri (o := o) hx hb hr hlocks hK hP hD hS hF kd_I_slotOf_20
    · rw [if_neg c3] at hF
      refine lv_iload_n hx hb kd_I_slotOf_12 rfl (lv_at hl 2 rfl) ?_
      refine lv_sipush (v := 268) hx hb kd_I_slotOf_13 (by decide) ?_
      refine lv_icmp_lt (tgt := 21) hx hb kd_I_slotOf_16 (by decide) (fun c4 => ?_) (fun c4 => ?_)
      · rw [if_pos c4] at hF
        refine lv_iload_n hx hb kd_I_slotOf_21 rfl (lv_at hl 2 rfl) ?_
        refine lv_bipush (v := 12) hx hb kd_I_slotOf_22 (by decide) ?_
        refine lv_icmp_ge (tgt := 40) hx hb kd_I_slotOf_24 (by decide) (fun c5 => ?_) (fun c5 => ?_)
        · rw [if_pos c5] at hF
          refine lv_aload_n hx hb kd_I_slotOf_40 rfl (lv_at hl 0 rfl) ?_
          refine va_get (D := (dC, dI)) (ci := 2) (v := .ref (a 3)) (C := "FileTree$Inodes") (T := ft_I) (N := 2) hx hb hts fi_I hown hK hP 2 rfl rfl 0 (by decide) (hts _ q_41) (fun _ h9 => h9) rfl kd_I_slotOf_41 ?_
          refine lv_aload_n hx hb kd_I_slotOf_44 rfl (lv_at hl 0 rfl) ?_
          refine lv_iload_n hx hb kd_I_slotOf_45 rfl (lv_at hl 1 rfl) ?_
          obtain ⟨r6, e_r6, hF⟩ := fb_ob hF
          refine fb_callV (As := [.int x1]) (rest := [.ref (a 3)]) ⟨hx, hb, hml, hown, hts⟩ zX_mv hZ hK hP hD hS hA (c_I_placeOf l dC dI dA a z x1 r1.2 r6 e_r6) (cwV 1 hts (gd_V q_112 ko_I_placeOf) rfl rfl rfl kh_I_placeOf ⟨Nat.le_of_ble_eq_true rfl, Nat.le_of_ble_eq_true rfl⟩) 2 2 rfl rfl rfl rfl hl.1 rfl (Nat.le_of_ble_eq_true rfl) kd_I_slotOf_46 ⟨Nat.zero_le _, Nat.zero_le _⟩ (fun H locs hP hD hS => ?_)
          refine W.eq (g2 := F0 m 49 ls [.int r6.1, .ref (a 3)]) rfl ?_
          refine lv_bipush (v := 60) hx hb kd_I_slotOf_49 (by decide) ?_
          refine lv_iadd hx hb kd_I_slotOf_51 ?_
          obtain ⟨r7, e_r7, hF⟩ := fb_ob hF
          refine fb_callV (As := [.int (r6.1 + (60 : Int32))]) (rest := []) ⟨hx, hb, hml, hown, hts⟩ zX_mv hZ hK hP hD hS hA (c_K_numberAt l dC dI dA a z (r6.1 + (60 : Int32)) r6.2 r7 e_r7) (cwV 1 hts (gd_V q_146 ko_K_numberAt) rfl rfl rfl kh_K_numberAt ⟨Nat.le_of_ble_eq_true rfl, Nat.le_of_ble_eq_true rfl⟩) 1 3 rfl rfl rfl rfl hl.1 rfl (Nat.le_of_ble_eq_true rfl) kd_I_slotOf_52 ⟨Nat.zero_le _, Nat.zero_le _⟩ (fun H locs hP hD hS => ?_)
          refine W.eq (g2 := F0 m 55 ls [.int r7.1]) rfl ?_
          refine lv_istore_n (lv' := [(3, .int r7.1), (0, .ref (a 2)), (1, .int x1), (2, .int x2)]) hx hb kd_I_slotOf_55 rfl hl (by decide) rfl (fun ls hl => ?_)
          refine lv_iload_n hx hb kd_I_slotOf_56 rfl (lv_at hl 0 rfl) ?_
          refine lv_if_ne (tgt := 64) hx hb kd_I_slotOf_57 (by decide) (fun c8 => ?_) (fun c8 => ?_)
          · rw [if_neg c8] at hF
            refine lv_iload_n hx hb kd_I_slotOf_64 rfl (lv_at hl 0 rfl) ?_
            refine lv_sipush (v := 1024) hx hb kd_I_slotOf_65 (by decide) ?_
            refine lv_imul hx hb kd_I_slotOf_68 ?_
            refine lv_iconst (v := 4) hx hb kd_I_slotOf_69 (by decide) ?_
            refine lv_iload_n hx hb kd_I_slotOf_70 rfl (lv_at hl 3 rfl) ?_
            refine lv_bipush (v := 12) hx hb kd_I_slotOf_71 (by decide) ?_
            refine lv_isub hx hb kd_I_slotOf_73 ?_
            refine lv_imul hx hb kd_I_slotOf_74 ?_
            refine lv_iadd hx hb kd_I_slotOf_75 ?_
            exact fb_ri (o := o) hx hb hr hlocks hK hP hD hS hF kd_I_slotOf_76
          · rw [if_pos c8] at hF
            refine lv_iconst (v := (-1)) hx hb kd_I_slotOf_60 (by decide) ?_
            refine lv_goto (tgt := 76) hx hb kd_I_slotOf_61 (by decide) ?_
            exact fb_ri (o := o) hx hb hr hlocks hK hP hD hS hF kd_I_slotOf_76
        · rw [if_neg c5] at hF
          refine lv_aload_n hx hb kd_I_slotOf_27 rfl (lv_at hl 0 rfl) ?_
          refine lv_iload_n hx hb kd_I_slotOf_28 rfl (lv_at hl 1 rfl) ?_
          obtain ⟨r9, e_r9, hF⟩ := fb_ob hF
          refine fb_callV (As := [.int x1]) (rest := []) ⟨hx, hb, hml, hown, hts⟩ zX_mv hZ hK hP hD hS hA (c_I_placeOf l dC dI dA a z x1 r1.2 r9 e_r9) (cwV 1 hts (gd_V q_112 ko_I_placeOf) rfl rfl rfl kh_I_placeOf ⟨Nat.le_of_ble_eq_true rfl, Nat.le_of_ble_eq_true rfl⟩) 2 2 rfl rfl rfl rfl hl.1 rfl (Nat.le_of_ble_eq_true rfl) kd_I_slotOf_29 ⟨Nat.zero_le _, Nat.zero_le _⟩ (fun H locs hP hD hS => ?_)
          refine W.eq (g2 := F0 m 32 ls [.int r9.1]) rfl ?_
          refine lv_bipush (v := 12) hx hb kd_I_slotOf_32 (by decide) ?_
          refine lv_iadd hx hb kd_I_slotOf_34 ?_
          refine lv_iconst (v := 4) hx hb kd_I_slotOf_35 (by decide) ?_
          refine lv_iload_n hx hb kd_I_slotOf_36 rfl (lv_at hl 2 rfl) ?_
          refine lv_imul hx hb kd_I_slotOf_37 ?_
          refine lv_iadd hx hb kd_I_slotOf_38 ?_
          exact fb_ri (o := o) hx hb hr hlocks hK hP hD hS hF kd_I_slotOf_39
      · rw [if_neg c4] at hF
        refine lv_iconst (v := (-1)) hx hb kd_I_slotOf_19 (by decide) ?_
        exact fb_ri (o := o) hx hb hr hlocks hK hP hD hS hF kd_I_slotOf_20
theorem c_I_slotOf (l : Launch) (dC : Nat → ClassId) (dI : Nat → Nat → Nat) (dA : Nat → ClassId) (a : Nat → Nat) (z : Nat → Nat) (x1 : Int32) (x2 : Int32) (st : fb_S) (o : Int32 × fb_S) (h : f_I_slotOf x1 x2 st = some o) : fb_M l ky_I_slotOf kw_I_slotOf rm_I_slotOf (dC, dI) vcl (tX dA) (wX dA a) (zX z) [.ref (a 2), .int x1, .int x2] (some (.int o.1)) st o.2 := fb_enter (by decide) rfl (Nat.le_of_ble_eq_true rfl) (fun p e s m below meth c A CX hP hD hS ls hl => w_I_slotOf_0 CX o x1 x2 st h s.heap [] hP hD hS ls hl)
abbrev rm_I_placeOfByte : Room := { frames := 2, cells := 0, slots := 0, locals := 45 }
def f_I_placeOfByte (x1 : Int32) (x2 : Int32) (st : fb_S) : Option (Int32 × fb_S) := (f_I_slotOf x1 (x2 / (1024 : Int32)) st).bind fun r1 => (f_K_numberAt r1.1 r1.2).bind fun r2 => (if r2.1 = (0 : Int32) then some ((-1 : Int32), r2.2) else some ((r2.1 * (1024 : Int32)) + (x2 - x2 / (1024 : Int32) * (1024 : Int32)), r2.2))
set_option maxHeartbeats 4000000 in
set_option maxRecDepth 100000 in
theorem w_I_placeOfByte_0 {p : Program} {l : Launch} {e : Env} {s : State} {m : MethodId} {args : Array Value} {below : List Frame} {meth : Method} {c : Code} {A : Nat → Prop} {dC : Nat → ClassId} {dI : Nat → Nat → Nat} {dA : Nat → ClassId} {a : Nat → Nat} {z : Nat → Nat} (CX : fb_C p s m args meth c kc_I_placeOfByte (some .int) 4 "FileTree$Inodes" (dC, dI) vcl (tX dA) A (zX z)) (o : Int32 × fb_S) (x1 : Int32) (x2 : Int32) (st : fb_S) (hF : f_I_placeOfByte x1 x2 st = some o) : fb_G p l e (headSpec kw_I_placeOfByte rm_I_placeOfByte).room s m args below meth c (dC, dI) vcl (tX dA) (wX dA a) A (some (.int o.1)) o.2 0 4 [(0, .ref (a 2)), (1, .int x1), (2, .int x2)] [] st := by
  intro H locs hP hD hS ls hl
  obtain ⟨hx, hb, hr, hml, hown, hts, hK, hA, hlocks, hZ⟩ := id CX
  unfold f_I_placeOfByte at hF
  refine lv_aload_n hx hb kd_I_placeOfByte_0 rfl (lv_at hl 0 rfl) ?_
  refine va_get (D := (dC, dI)) (ci := 2) (v := .ref (a 3)) (C := "FileTree$Inodes") (T := ft_I) (N := 2) hx hb hts fi_I hown hK hP 2 rfl rfl 0 (by decide) (hts _ q_41) (fun _ h9 => h9) rfl kd_I_placeOfByte_1 ?_
  refine lv_aload_n hx hb kd_I_placeOfByte_4 rfl (lv_at hl 0 rfl) ?_
  refine lv_iload_n hx hb kd_I_placeOfByte_5 rfl (lv_at hl 1 rfl) ?_
  refine lv_iload_n hx hb kd_I_placeOfByte_6 rfl (lv_at hl 2 rfl) ?_
  refine lv_sipush (v := 1024) hx hb kd_I_placeOfByte_7 (by decide) ?_
  refine lv_idiv hx hb kd_I_placeOfByte_10 (by decide) ?_
  obtain ⟨r1, e_r1, hF⟩ := fb_ob hF
  refine fb_callV (As := [.int x1, .int (x2 / (1024 : Int32))]) (rest := [.ref (a 3)]) ⟨hx, hb, hml, hown, hts⟩ zX_mv hZ hK hP hD hS hA (c_I_slotOf l dC dI dA a z x1 (x2 / (1024 : Int32)) st r1 e_r1) (cwV 2 hts (gd_V q_154 ko_I_slotOf) rfl rfl rfl kh_I_slotOf ⟨Nat.le_of_ble_eq_true rfl, Nat.le_of_ble_eq_true rfl⟩) 2 2 rfl rfl rfl rfl hl.1 rfl (Nat.le_of_ble_eq_true rfl) kd_I_placeOfByte_11 ⟨Nat.zero_le _, Nat.zero_le _⟩ (fun H locs hP hD hS => ?_)
  refine W.eq (g2 := F0 m 14 ls [.int r1.1, .ref (a 3)]) rfl ?_
  obtain ⟨r2, e_r2, hF⟩ := fb_ob hF
  refine fb_callV (As := [.int r1.1]) (rest := []) ⟨hx, hb, hml, hown, hts⟩ zX_mv hZ hK hP hD hS hA (c_K_numberAt l dC dI dA a z r1.1 r1.2 r2 e_r2) (cwV 1 hts (gd_V q_146 ko_K_numberAt) rfl rfl rfl kh_K_numberAt ⟨Nat.le_of_ble_eq_true rfl, Nat.le_of_ble_eq_true rfl⟩) 1 3 rfl rfl rfl rfl hl.1 rfl (Nat.le_of_ble_eq_true rfl) kd_I_placeOfByte_14 ⟨Nat.zero_le _, Nat.zero_le _⟩ (fun H locs hP hD hS => ?_)
  refine W.eq (g2 := F0 m 17 ls [.int r2.1]) rfl ?_
  refine lv_istore_n (lv' := [(3, .int r2.1), (0, .ref (a 2)), (1, .int x1), (2, .int x2)]) hx hb kd_I_placeOfByte_17 rfl hl (by decide) rfl (fun ls hl => ?_)
  refine lv_iload_n hx hb kd_I_placeOfByte_18 rfl (lv_at hl 0 rfl) ?_
  refine lv_if_ne (tgt := 26) hx hb kd_I_placeOfByte_19 (by decide) (fun c3 => ?_) (fun c3 => ?_)
  · rw [if_neg c3] at hF
    refine lv_iload_n hx hb kd_I_placeOfByte_26 rfl (lv_at hl 0 rfl) ?_
    refine lv_sipush (v := 1024) hx hb kd_I_placeOfByte_27 (by decide) ?_
    refine lv_imul hx hb kd_I_placeOfByte_30 ?_
    refine lv_iload_n hx hb kd_I_placeOfByte_31 rfl (lv_at hl 3 rfl) ?_
    refine lv_sipush (v := 1024) hx hb kd_I_placeOfByte_32 (by decide) ?_
    refine lv_irem hx hb kd_I_placeOfByte_35 (by decide) ?_
    refine lv_iadd hx hb kd_I_placeOfByte_36 ?_
    exact fb_ri (o := o) hx hb hr hlocks hK hP hD hS hF kd_I_placeOfByte_37
  · rw [if_pos c3] at hF
    refine lv_iconst (v := (-1)) hx hb kd_I_placeOfByte_22 (by decide) ?_
    refine lv_goto (tgt := 37) hx hb kd_I_placeOfByte_23 (by decide) ?_
    exact fb_ri (o := o) hx hb hr hlocks hK hP hD hS hF kd_I_placeOfByte_37
theorem c_I_placeOfByte (l : Launch) (dC : Nat → ClassId) (dI : Nat → Nat → Nat) (dA : Nat → ClassId) (a : Nat → Nat) (z : Nat → Nat) (x1 : Int32) (x2 : Int32) (st : fb_S) (o : Int32 × fb_S) (h : f_I_placeOfByte x1 x2 st = some o) : fb_M l ky_I_placeOfByte kw_I_placeOfByte rm_I_placeOfByte (dC, dI) vcl (tX dA) (wX dA a) (zX z) [.ref (a 2), .int x1, .int x2] (some (.int o.1)) st o.2 := fb_enter (by decide) rfl (Nat.le_of_ble_eq_true rfl) (fun p e s m below meth c A CX hP hD hS ls hl => w_I_placeOfByte_0 CX o x1 x2 st h s.heap [] hP hD hS ls hl)
abbrev rm_D_freeEntry : Room := { frames := 3, cells := 0, slots := 0, locals := 68 }
def b_D_freeEntry_8 (k8 : Int32 → Int32 → Int32 → fb_S → Option (Int32 × fb_S)) (x1 : Int32) (x2 : Int32) (x3 : Int32) (st : fb_S) : Option (Int32 × fb_S) := (if x2 ≤ x3 then some ((-1 : Int32), st) else (f_I_placeOfByte x1 x3 st).bind fun r2 => (f_K_partAt r2.1 (65535 : Int32) r2.2).bind fun r3 => (if r3.1 = (0 : Int32) then some (r2.1, r3.2) else k8 x1 x2 (x3 + (16 : Int32)) r3.2))
set_option maxHeartbeats 4000000 in
set_option maxRecDepth 100000 in
theorem w_D_freeEntry_8 {p : Program} {l : Launch} {e : Env} {s : State} {m : MethodId} {args : Array Value} {below : List Frame} {meth : Method} {c : Code} {A : Nat → Prop} {dC : Nat → ClassId} {dI : Nat → Nat → Nat} {dA : Nat → ClassId} {a : Nat → Nat} {z : Nat → Nat} (CX : fb_C p s m args meth c kc_D_freeEntry (some .int) 5 "FileTree$Directories" (dC, dI) vcl (tX dA) A (zX z)) (o : Int32 × fb_S) (k8 : Int32 → Int32 → Int32 → fb_S → Option (Int32 × fb_S)) (hk8 : ∀ (x1 : Int32) (x2 : Int32) (x3 : Int32) (st : fb_S), k8 x1 x2 x3 st = some o → fb_G p l e (headSpec kw_D_freeEntry rm_D_freeEntry).room s m args below meth c (dC, dI) vcl (tX dA) (wX dA a) A (some (.int o.1)) o.2 8 5 [(0, .ref (a 1)), (1, .int x1), (2, .int x2), (3, .int x3)] [] st) (x1 : Int32) (x2 : Int32) (x3 : Int32) (st : fb_S) (hF : b_D_freeEntry_8 k8 x1 x2 x3 st = some o) : fb_G p l e (headSpec kw_D_freeEntry rm_D_freeEntry).room s m args below meth c (dC, dI) vcl (tX dA) (wX dA a) A (some (.int o.1)) o.2 8 5 [(0, .ref (a 1)), (1, .int x1), (2, .int x2), (3, .int x3)] [] st := by
  intro H locs hP hD hS ls hl
  obtain ⟨hx, hb, hr, hml, hown, hts, hK, hA, hlocks, hZ⟩ := id CX
  unfold b_D_freeEntry_8 at hF
  refine lv_iload_n hx hb kd_D_freeEntry_8 rfl (lv_at hl 3 rfl) ?_
  refine lv_iload_n hx hb kd_D_freeEntry_9 rfl (lv_at hl 2 rfl) ?_
  refine lv_icmp_ge (tgt := 47) hx hb kd_D_freeEntry_10 (by decide) (fun c1 => ?_) (fun c1 => ?_)
  · rw [if_pos c1] at hF
    refine lv_iconst (v := (-1)) hx hb kd_D_freeEntry_47 (by decide) ?_
    exact fb_ri (o := o) hx hb hr hlocks hK hP hD hS hF kd_D_freeEntry_48
  · rw [if_neg c1] at hF
    refine lv_aload_n hx hb kd_D_freeEntry_13 rfl (lv_at hl 0 rfl) ?_
    refine va_get (D := (dC, dI)) (ci := 0) (v := .ref (a 2)) (C := "FileTree$Directories") (T := ft_D) (N := 2) hx hb hts fi_D hown hK hP 1 rfl rfl 0 (by decide) (hts _ q_50) (fun _ h9 => h9) rfl kd_D_freeEntry_14 ?_
    refine lv_iload_n hx hb kd_D_freeEntry_17 rfl (lv_at hl 1 rfl) ?_
    refine lv_iload_n hx hb kd_D_freeEntry_18 rfl (lv_at hl 3 rfl) ?_
    obtain ⟨r2, e_r2, hF⟩ := fb_ob hF
    refine fb_callV (As := [.int x1, .int x3]) (rest := []) ⟨hx, hb, hml, hown, hts⟩ zX_mv hZ hK hP hD hS hA (c_I_placeOfByte l dC dI dA a z x1 x3 st r2 e_r2) (cwV 2 hts (gd_V q_150 ko_I_placeOfByte) rfl rfl rfl kh_I_placeOfByte ⟨Nat.le_of_ble_eq_true rfl, Nat.le_of_ble_eq_true rfl⟩) 2 2 rfl rfl rfl rfl hl.1 rfl (Nat.le_of_ble_eq_true rfl) kd_D_freeEntry_19 ⟨Nat.zero_le _, Nat.zero_le _⟩ (fun H locs hP hD hS => ?_)
    refine W.eq (g2 := F0 m 22 ls [.int r2.1]) rfl ?_
    refine lv_istore (lv' := [(4, .int r2.1), (0, .ref (a 1)), (1, .int x1), (2, .int x2), (3, .int x3)]) hx hb kd_D_freeEntry_22 hl (by decide) rfl (fun ls hl => ?_)
    refine lv_aload_n hx hb kd_D_freeEntry_24 rfl (lv_at hl 1 rfl) ?_
    refine va_get (D := (dC, dI)) (ci := 0) (v := .ref (a 3)) (C := "FileTree$Directories") (T := ft_D) (N := 2) hx hb hts fi_D hown hK hP 1 rfl rfl 1 (by decide) (hts _ q_52) (fun _ h9 => h9) rfl kd_D_freeEntry_25 ?_
    refine lv_iload hx hb kd_D_freeEntry_28 (lv_at hl 0 rfl) ?_
    refine lv_ldc (v := 65535) hx hb hown (hts _ q_158) kd_D_freeEntry_30 ?_
    obtain ⟨r3, e_r3, hF⟩ := fb_ob hF
    refine fb_callV (As := [.int r2.1, .int (65535 : Int32)]) (rest := []) ⟨hx, hb, hml, hown, hts⟩ zX_mv hZ hK hP hD hS hA (c_K_partAt l dC dI dA a z r2.1 (65535 : Int32) r2.2 r3 e_r3) (cwV 2 hts (gd_V q_159 ko_K_partAt) rfl rfl rfl kh_K_partAt ⟨Nat.le_of_ble_eq_true rfl, Nat.le_of_ble_eq_true rfl⟩) 1 3 rfl rfl rfl rfl hl.1 rfl (Nat.le_of_ble_eq_true rfl) kd_D_freeEntry_32 ⟨Nat.zero_le _, Nat.zero_le _⟩ (fun H locs hP hD hS => ?_)
    refine W.eq (g2 := F0 m 35 ls [.int r3.1]) rfl ?_
    refine lv_if_ne (tgt := 41) hx hb kd_D_freeEntry_35 (by decide) (fun c4 => ?_) (fun c4 => ?_)
    · rw [if_neg c4] at hF
      refine lv_iinc (v := x3 + (16 : Int32)) (lv' := [(3, .int (x3 + (16 : Int32))), (4, .int r2.1), (0, .ref (a 1)), (1, .int x1), (2, .int x2)]) hx hb kd_D_freeEntry_41 hl (k := 4) rfl rfl (by decide) rfl (fun ls hl => ?_)
      refine lv_goto (tgt := 8) hx hb kd_D_freeEntry_44 (by decide) ?_
      exact hk8 x1 x2 (x3 + (16 : Int32)) r3.2 hF H locs hP hD hS ls (lv_sub hl [2, 3, 4, 0] rfl)
    · rw [if_pos c4] at hF
      refine lv_iload hx hb kd_D_freeEntry_38 (lv_at hl 0 rfl) ?_
      exact fb_ri (o := o) hx hb hr hlocks hK hP hD hS hF kd_D_freeEntry_40
def l_D_freeEntry_8 : Nat → Int32 → Int32 → Int32 → fb_S → Option (Int32 × fb_S)
  | 0 => fun _ _ _ _ => none
  | n + 1 => b_D_freeEntry_8 (l_D_freeEntry_8 n)
theorem v_D_freeEntry_8 {p : Program} {l : Launch} {e : Env} {s : State} {m : MethodId} {args : Array Value} {below : List Frame} {meth : Method} {c : Code} {A : Nat → Prop} {dC : Nat → ClassId} {dI : Nat → Nat → Nat} {dA : Nat → ClassId} {a : Nat → Nat} {z : Nat → Nat} (CX : fb_C p s m args meth c kc_D_freeEntry (some .int) 5 "FileTree$Directories" (dC, dI) vcl (tX dA) A (zX z)) (o : Int32 × fb_S) (n : Nat) : ∀ (x1 : Int32) (x2 : Int32) (x3 : Int32) (st : fb_S), l_D_freeEntry_8 n x1 x2 x3 st = some o → fb_G p l e (headSpec kw_D_freeEntry rm_D_freeEntry).room s m args below meth c (dC, dI) vcl (tX dA) (wX dA a) A (some (.int o.1)) o.2 8 5 [(0, .ref (a 1)), (1, .int x1), (2, .int x2), (3, .int x3)] [] st := by
  induction n with
  | zero => intro x1 x2 x3 st hF; cases hF
  | succ n ih => intro x1 x2 x3 st hF; exact w_D_freeEntry_8 CX o (l_D_freeEntry_8 n) ih x1 x2 x3 st hF
def f_D_freeEntry (x1 : Int32) (st : fb_S) : Option (Int32 × fb_S) := (f_D_sizeOf x1 st).bind fun r1 => l_D_freeEntry_8 fb_n x1 r1.1 (0 : Int32) r1.2
set_option maxHeartbeats 4000000 in
set_option maxRecDepth 100000 in
theorem w_D_freeEntry_0 {p : Program} {l : Launch} {e : Env} {s : State} {m : MethodId} {args : Array Value} {below : List Frame} {meth : Method} {c : Code} {A : Nat → Prop} {dC : Nat → ClassId} {dI : Nat → Nat → Nat} {dA : Nat → ClassId} {a : Nat → Nat} {z : Nat → Nat} (CX : fb_C p s m args meth c kc_D_freeEntry (some .int) 5 "FileTree$Directories" (dC, dI) vcl (tX dA) A (zX z)) (o : Int32 × fb_S) (x1 : Int32) (st : fb_S) (hF : f_D_freeEntry x1 st = some o) : fb_G p l e (headSpec kw_D_freeEntry rm_D_freeEntry).room s m args below meth c (dC, dI) vcl (tX dA) (wX dA a) A (some (.int o.1)) o.2 0 5 [(0, .ref (a 1)), (1, .int x1)] [] st := by
  intro H locs hP hD hS ls hl
  obtain ⟨hx, hb, hr, hml, hown, hts, hK, hA, hlocks, hZ⟩ := id CX
  unfold f_D_freeEntry at hF
  refine lv_aload_n hx hb kd_D_freeEntry_0 rfl (lv_at hl 0 rfl) ?_
  refine lv_iload_n hx hb kd_D_freeEntry_1 rfl (lv_at hl 1 rfl) ?_
  obtain ⟨r1, e_r1, hF⟩ := fb_ob hF
  refine fb_callV (As := [.int x1]) (rest := []) ⟨hx, hb, hml, hown, hts⟩ zX_mv hZ hK hP hD hS hA (c_D_sizeOf l dC dI dA a z x1 st r1 e_r1) (cwV 1 hts (gd_V q_133 ko_D_sizeOf) rfl rfl rfl kh_D_sizeOf ⟨Nat.le_of_ble_eq_true rfl, Nat.le_of_ble_eq_true rfl⟩) 0 1 rfl rfl rfl rfl hl.1 rfl (Nat.le_of_ble_eq_true rfl) kd_D_freeEntry_2 ⟨Nat.zero_le _, Nat.zero_le _⟩ (fun H locs hP hD hS => ?_)
  refine W.eq (g2 := F0 m 5 ls [.int r1.1]) rfl ?_
  refine lv_istore_n (lv' := [(2, .int r1.1), (0, .ref (a 1)), (1, .int x1)]) hx hb kd_D_freeEntry_5 rfl hl (by decide) rfl (fun ls hl => ?_)
  refine lv_iconst (v := 0) hx hb kd_D_freeEntry_6 (by decide) ?_
  refine lv_istore_n (lv' := [(3, .int (0 : Int32)), (2, .int r1.1), (0, .ref (a 1)), (1, .int x1)]) hx hb kd_D_freeEntry_7 rfl hl (by decide) rfl (fun ls hl => ?_)
  exact v_D_freeEntry_8 CX o fb_n x1 r1.1 (0 : Int32) r1.2 hF H locs hP hD hS ls (lv_sub hl [2, 3, 1, 0] rfl)
theorem c_D_freeEntry (l : Launch) (dC : Nat → ClassId) (dI : Nat → Nat → Nat) (dA : Nat → ClassId) (a : Nat → Nat) (z : Nat → Nat) (x1 : Int32) (st : fb_S) (o : Int32 × fb_S) (h : f_D_freeEntry x1 st = some o) : fb_M l ky_D_freeEntry kw_D_freeEntry rm_D_freeEntry (dC, dI) vcl (tX dA) (wX dA a) (zX z) [.ref (a 1), .int x1] (some (.int o.1)) st o.2 := fb_enter (by decide) rfl (Nat.le_of_ble_eq_true rfl) (fun p e s m below meth c A CX hP hD hS ls hl => w_D_freeEntry_0 CX o x1 st h s.heap [] hP hD hS ls hl)
abbrev rm_D_nameByte_z1 : Room := { frames := 0, cells := 0, slots := 0, locals := 0 }
def f_D_nameByte_z1 (x2 : Int32) (st : fb_S) : Option (Int32 × fb_S) := (if x2 < (0 : Int32) then some ((0 : Int32), st) else (if (1 : Int32) ≤ x2 then some ((0 : Int32), st) else (fb_ld (zf_1) 1 x2).bind fun v3 => some (v3 &&& (255 : Int32), st)))
set_option maxHeartbeats 4000000 in
set_option maxRecDepth 100000 in
theorem w_D_nameByte_z1_0 {p : Program} {l : Launch} {e : Env} {s : State} {m : MethodId} {args : Array Value} {below : List Frame} {meth : Method} {c : Code} {A : Nat → Prop} {dC : Nat → ClassId} {dI : Nat → Nat → Nat} {dA : Nat → ClassId} {a : Nat → Nat} {z : Nat → Nat} (CX : fb_C p s m args meth c kc_D_nameByte (some .int) 3 "FileTree$Directories" (dC, dI) vcl (tX dA) A (zX z)) (o : Int32 × fb_S) (x2 : Int32) (st : fb_S) (hF : f_D_nameByte_z1 x2 st = some o) : fb_G p l e (headSpec kw_D_nameByte rm_D_nameByte_z1).room s m args below meth c (dC, dI) vcl (tX dA) (wX dA a) A (some (.int o.1)) o.2 0 3 [(0, .ref (a 1)), (1, .ref (z 1)), (2, .int x2)] [] st := by
  intro H locs hP hD hS ls hl
  obtain ⟨hx, hb, hr, hml, hown, hts, hK, hA, hlocks, hZ⟩ := id CX
  unfold f_D_nameByte_z1 at hF
  refine lv_iload_n hx hb kd_D_nameByte_0 rfl (lv_at hl 2 rfl) ?_
  refine lv_if_lt (tgt := 20) hx hb kd_D_nameByte_1 (by decide) (fun c1 => ?_) (fun c1 => ?_)
  · rw [if_pos c1] at hF
    refine lv_iconst (v := 0) hx hb kd_D_nameByte_20 (by decide) ?_
    exact fb_ri (o := o) hx hb hr hlocks hK hP hD hS hF kd_D_nameByte_21
  · rw [if_neg c1] at hF
    refine lv_iload_n hx hb kd_D_nameByte_4 rfl (lv_at hl 2 rfl) ?_
    refine lv_aload_n hx hb kd_D_nameByte_5 rfl (lv_at hl 1 rfl) ?_
    refine va_tlen (v := 1) hx hb hZ.2.2.2.2.1 hS rfl kd_D_nameByte_6 ?_
    refine lv_icmp_ge (tgt := 20) hx hb kd_D_nameByte_7 (by decide) (fun c2 => ?_) (fun c2 => ?_)
    · rw [if_pos c2] at hF
      refine lv_iconst (v := 0) hx hb kd_D_nameByte_20 (by decide) ?_
      exact fb_ri (o := o) hx hb hr hlocks hK hP hD hS hF kd_D_nameByte_21
    · rw [if_neg c2] at hF
      refine lv_aload_n hx hb kd_D_nameByte_10 rfl (lv_at hl 1 rfl) ?_
      refine lv_iload_n hx hb kd_D_nameByte_11 rfl (lv_at hl 2 rfl) ?_
      obtain ⟨v3, e_v3, hF⟩ := fb_ob hF
      refine fb_tb hx hb hZ.2.2.2.2.1 hS e_v3 kd_D_nameByte_12 ?_
      refine lv_sipush (v := 255) hx hb kd_D_nameByte_13 (by decide) ?_
      refine lv_iand hx hb kd_D_nameByte_16 ?_
      refine lv_goto (tgt := 21) hx hb kd_D_nameByte_17 (by decide) ?_
      exact fb_ri (o := o) hx hb hr hlocks hK hP hD hS hF kd_D_nameByte_21
theorem c_D_nameByte_z1 (l : Launch) (dC : Nat → ClassId) (dI : Nat → Nat → Nat) (dA : Nat → ClassId) (a : Nat → Nat) (z : Nat → Nat) (x2 : Int32) (st : fb_S) (o : Int32 × fb_S) (h : f_D_nameByte_z1 x2 st = some o) : fb_M l ky_D_nameByte kw_D_nameByte rm_D_nameByte_z1 (dC, dI) vcl (tX dA) (wX dA a) (zX z) [.ref (a 1), .ref (z 1), .int x2] (some (.int o.1)) st o.2 := fb_enter (by decide) rfl (Nat.le_of_ble_eq_true rfl) (fun p e s m below meth c A CX hP hD hS ls hl => w_D_nameByte_z1_0 CX o x2 st h s.heap [] hP hD hS ls hl)
abbrev rm_I_setSize : Room := { frames := 1, cells := 0, slots := 0, locals := 23 }
def f_I_setSize (x1 : Int32) (x2 : Int32) (st : fb_S) : Option (Int32 × fb_S) := (f_I_isInode x1 st).bind fun r1 => (if r1.1 = (0 : Int32) then some (0, r1.2) else (f_I_placeOf x1 r1.2).bind fun r3 => (f_K_setNumber (r3.1 + (8 : Int32)) x2 r3.2).bind fun r4 => some (0, r4.2))
set_option maxHeartbeats 4000000 in
set_option maxRecDepth 100000 in
theorem w_I_setSize_0 {p : Program} {l : Launch} {e : Env} {s : State} {m : MethodId} {args : Array Value} {below : List Frame} {meth : Method} {c : Code} {A : Nat → Prop} {dC : Nat → ClassId} {dI : Nat → Nat → Nat} {dA : Nat → ClassId} {a : Nat → Nat} {z : Nat → Nat} (CX : fb_C p s m args meth c kc_I_setSize none 3 "FileTree$Inodes" (dC, dI) vcl (tX dA) A (zX z)) (o : Int32 × fb_S) (x1 : Int32) (x2 : Int32) (st : fb_S) (hF : f_I_setSize x1 x2 st = some o) : fb_G p l e (headSpec kw_I_setSize rm_I_setSize).room s m args below meth c (dC, dI) vcl (tX dA) (wX dA a) A none o.2 0 3 [(0, .ref (a 2)), (1, .int x1), (2, .int x2)] [] st := by
  intro H locs hP hD hS ls hl
  obtain ⟨hx, hb, hr, hml, hown, hts, hK, hA, hlocks, hZ⟩ := id CX
  unfold f_I_setSize at hF
  refine lv_aload_n hx hb kd_I_setSize_0 rfl (lv_at hl 0 rfl) ?_
  refine lv_iload_n hx hb kd_I_setSize_1 rfl (lv_at hl 1 rfl) ?_
  obtain ⟨r1, e_r1, hF⟩ := fb_ob hF
  refine fb_callV (As := [.int x1]) (rest := []) ⟨hx, hb, hml, hown, hts⟩ zX_mv hZ hK hP hD hS hA (c_I_isInode l dC dI dA a z x1 st r1 e_r1) (cwV 1 hts (gd_V q_108 ko_I_isInode) rfl rfl rfl kh_I_isInode ⟨Nat.le_of_ble_eq_true rfl, Nat.le_of_ble_eq_true rfl⟩) 2 2 rfl rfl rfl rfl hl.1 rfl (Nat.le_of_ble_eq_true rfl) kd_I_setSize_2 ⟨Nat.zero_le _, Nat.zero_le _⟩ (fun H locs hP hD hS => ?_)
  refine W.eq (g2 := F0 m 5 ls [.int r1.1]) rfl ?_
  refine lv_if_eq (tgt := 24) hx hb kd_I_setSize_5 (by decide) (fun c2 => ?_) (fun c2 => ?_)
  · rw [if_pos c2] at hF
    exact fb_rv (o := o) hx hb hr hlocks hK hP hD hS hF kd_I_setSize_24
  · rw [if_neg c2] at hF
    refine lv_aload_n hx hb kd_I_setSize_8 rfl (lv_at hl 0 rfl) ?_
    refine va_get (D := (dC, dI)) (ci := 2) (v := .ref (a 3)) (C := "FileTree$Inodes") (T := ft_I) (N := 2) hx hb hts fi_I hown hK hP 2 rfl rfl 0 (by decide) (hts _ q_41) (fun _ h9 => h9) rfl kd_I_setSize_9 ?_
    refine lv_aload_n hx hb kd_I_setSize_12 rfl (lv_at hl 0 rfl) ?_
    refine lv_iload_n hx hb kd_I_setSize_13 rfl (lv_at hl 1 rfl) ?_
    obtain ⟨r3, e_r3, hF⟩ := fb_ob hF
    refine fb_callV (As := [.int x1]) (rest := [.ref (a 3)]) ⟨hx, hb, hml, hown, hts⟩ zX_mv hZ hK hP hD hS hA (c_I_placeOf l dC dI dA a z x1 r1.2 r3 e_r3) (cwV 1 hts (gd_V q_112 ko_I_placeOf) rfl rfl rfl kh_I_placeOf ⟨Nat.le_of_ble_eq_true rfl, Nat.le_of_ble_eq_true rfl⟩) 2 2 rfl rfl rfl rfl hl.1 rfl (Nat.le_of_ble_eq_true rfl) kd_I_setSize_14 ⟨Nat.zero_le _, Nat.zero_le _⟩ (fun H locs hP hD hS => ?_)
    refine W.eq (g2 := F0 m 17 ls [.int r3.1, .ref (a 3)]) rfl ?_
    refine lv_bipush (v := 8) hx hb kd_I_setSize_17 (by decide) ?_
    refine lv_iadd hx hb kd_I_setSize_19 ?_
    refine lv_iload_n hx hb kd_I_setSize_20 rfl (lv_at hl 2 rfl) ?_
    obtain ⟨r4, e_r4, hF⟩ := fb_ob hF
    refine fb_callV (As := [.int (r3.1 + (8 : Int32)), .int x2]) (rest := []) ⟨hx, hb, hml, hown, hts⟩ zX_mv hZ hK hP hD hS hA (c_K_setNumber l dC dI dA a z (r3.1 + (8 : Int32)) x2 r3.2 r4 e_r4) (cwV 2 hts (gd_V q_187 ko_K_setNumber) rfl rfl rfl kh_K_setNumber ⟨Nat.le_of_ble_eq_true rfl, Nat.le_of_ble_eq_true rfl⟩) 1 3 rfl rfl rfl rfl hl.1 rfl (Nat.le_of_ble_eq_true rfl) kd_I_setSize_21 ⟨Nat.zero_le _, Nat.zero_le _⟩ (fun H locs hP hD hS => ?_)
    refine W.eq (g2 := F0 m 24 ls []) rfl ?_
    exact fb_rv (o := o) hx hb hr hlocks hK hP hD hS hF kd_I_setSize_24
theorem c_I_setSize (l : Launch) (dC : Nat → ClassId) (dI : Nat → Nat → Nat) (dA : Nat → ClassId) (a : Nat → Nat) (z : Nat → Nat) (x1 : Int32) (x2 : Int32) (st : fb_S) (o : Int32 × fb_S) (h : f_I_setSize x1 x2 st = some o) : fb_M l ky_I_setSize kw_I_setSize rm_I_setSize (dC, dI) vcl (tX dA) (wX dA a) (zX z) [.ref (a 2), .int x1, .int x2] none st o.2 := fb_enter (by decide) rfl (Nat.le_of_ble_eq_true rfl) (fun p e s m below meth c A CX hP hD hS ls hl => w_I_setSize_0 CX o x1 x2 st h s.heap [] hP hD hS ls hl)
abbrev rm_I_blocksToAdd : Room := { frames := 0, cells := 0, slots := 0, locals := 0 }
def f_I_blocksToAdd (x1 : Int32) (st : fb_S) : Option (Int32 × fb_S) := (if x1 = (12 : Int32) then some ((2 : Int32), st) else some ((1 : Int32), st))
set_option maxHeartbeats 4000000 in
set_option maxRecDepth 100000 in
theorem w_I_blocksToAdd_0 {p : Program} {l : Launch} {e : Env} {s : State} {m : MethodId} {args : Array Value} {below : List Frame} {meth : Method} {c : Code} {A : Nat → Prop} {dC : Nat → ClassId} {dI : Nat → Nat → Nat} {dA : Nat → ClassId} {a : Nat → Nat} {z : Nat → Nat} (CX : fb_C p s m args meth c kc_I_blocksToAdd (some .int) 2 "FileTree$Inodes" (dC, dI) vcl (tX dA) A (zX z)) (o : Int32 × fb_S) (x1 : Int32) (st : fb_S) (hF : f_I_blocksToAdd x1 st = some o) : fb_G p l e (headSpec kw_I_blocksToAdd rm_I_blocksToAdd).room s m args below meth c (dC, dI) vcl (tX dA) (wX dA a) A (some (.int o.1)) o.2 0 2 [(0, .ref (a 2)), (1, .int x1)] [] st := by
  intro H locs hP hD hS ls hl
  obtain ⟨hx, hb, hr, hml, hown, hts, hK, hA, hlocks, hZ⟩ := id CX
  unfold f_I_blocksToAdd at hF
  refine lv_iload_n hx hb kd_I_blocksToAdd_0 rfl (lv_at hl 1 rfl) ?_
  refine lv_bipush (v := 12) hx hb kd_I_blocksToAdd_1 (by decide) ?_
  refine lv_icmp_ne (tgt := 10) hx hb kd_I_blocksToAdd_3 (by decide) (fun c1 => ?_) (fun c1 => ?_)
  · rw [if_neg c1] at hF
    refine lv_iconst (v := 1) hx hb kd_I_blocksToAdd_10 (by decide) ?_
    exact fb_ri (o := o) hx hb hr hlocks hK hP hD hS hF kd_I_blocksToAdd_11
  · rw [if_pos c1] at hF
    refine lv_iconst (v := 2) hx hb kd_I_blocksToAdd_6 (by decide) ?_
    refine lv_goto (tgt := 11) hx hb kd_I_blocksToAdd_7 (by decide) ?_
    exact fb_ri (o := o) hx hb hr hlocks hK hP hD hS hF kd_I_blocksToAdd_11
theorem c_I_blocksToAdd (l : Launch) (dC : Nat → ClassId) (dI : Nat → Nat → Nat) (dA : Nat → ClassId) (a : Nat → Nat) (z : Nat → Nat) (x1 : Int32) (st : fb_S) (o : Int32 × fb_S) (h : f_I_blocksToAdd x1 st = some o) : fb_M l ky_I_blocksToAdd kw_I_blocksToAdd rm_I_blocksToAdd (dC, dI) vcl (tX dA) (wX dA a) (zX z) [.ref (a 2), .int x1] (some (.int o.1)) st o.2 := fb_enter (by decide) rfl (Nat.le_of_ble_eq_true rfl) (fun p e s m below meth c A CX hP hD hS ls hl => w_I_blocksToAdd_0 CX o x1 st h s.heap [] hP hD hS ls hl)
abbrev rm_J_bitCount : Room := { frames := 0, cells := 0, slots := 0, locals := 0 }
def f_J_bitCount (x0 : Int32) (st : fb_S) : Option (Int32 × fb_S) := some ((((((((x0 - ((fb_us x0 (1 : Int32)) &&& (1431655765 : Int32))) &&& (858993459 : Int32)) + ((fb_us (x0 - ((fb_us x0 (1 : Int32)) &&& (1431655765 : Int32))) (2 : Int32)) &&& (858993459 : Int32))) + (fb_us (((x0 - ((fb_us x0 (1 : Int32)) &&& (1431655765 : Int32))) &&& (858993459 : Int32)) + ((fb_us (x0 - ((fb_us x0 (1 : Int32)) &&& (1431655765 : Int32))) (2 : Int32)) &&& (858993459 : Int32))) (4 : Int32))) &&& (252645135 : Int32)) + (fb_us (((((x0 - ((fb_us x0 (1 : Int32)) &&& (1431655765 : Int32))) &&& (858993459 : Int32)) + ((fb_us (x0 - ((fb_us x0 (1 : Int32)) &&& (1431655765 : Int32))) (2 : Int32)) &&& (858993459 : Int32))) + (fb_us (((x0 - ((fb_us x0 (1 : Int32)) &&& (1431655765 : Int32))) &&& (858993459 : Int32)) + ((fb_us (x0 - ((fb_us x0 (1 : Int32)) &&& (1431655765 : Int32))) (2 : Int32)) &&& (858993459 : Int32))) (4 : Int32))) &&& (252645135 : Int32)) (8 : Int32))) + (fb_us ((((((x0 - ((fb_us x0 (1 : Int32)) &&& (1431655765 : Int32))) &&& (858993459 : Int32)) + ((fb_us (x0 - ((fb_us x0 (1 : Int32)) &&& (1431655765 : Int32))) (2 : Int32)) &&& (858993459 : Int32))) + (fb_us (((x0 - ((fb_us x0 (1 : Int32)) &&& (1431655765 : Int32))) &&& (858993459 : Int32)) + ((fb_us (x0 - ((fb_us x0 (1 : Int32)) &&& (1431655765 : Int32))) (2 : Int32)) &&& (858993459 : Int32))) (4 : Int32))) &&& (252645135 : Int32)) + (fb_us (((((x0 - ((fb_us x0 (1 : Int32)) &&& (1431655765 : Int32))) &&& (858993459 : Int32)) + ((fb_us (x0 - ((fb_us x0 (1 : Int32)) &&& (1431655765 : Int32))) (2 : Int32)) &&& (858993459 : Int32))) + (fb_us (((x0 - ((fb_us x0 (1 : Int32)) &&& (1431655765 : Int32))) &&& (858993459 : Int32)) + ((fb_us (x0 - ((fb_us x0 (1 : Int32)) &&& (1431655765 : Int32))) (2 : Int32)) &&& (858993459 : Int32))) (4 : Int32))) &&& (252645135 : Int32)) (8 : Int32))) (16 : Int32))) &&& (63 : Int32), st)
set_option maxHeartbeats 4000000 in
set_option maxRecDepth 100000 in
theorem w_J_bitCount_0 {p : Program} {l : Launch} {e : Env} {s : State} {m : MethodId} {args : Array Value} {below : List Frame} {meth : Method} {c : Code} {A : Nat → Prop} {dC : Nat → ClassId} {dI : Nat → Nat → Nat} {dA : Nat → ClassId} {a : Nat → Nat} {z : Nat → Nat} (CX : fb_C p s m args meth c kc_J_bitCount (some .int) 1 "java/lang/Integer" (dC, dI) vcl (tX dA) A (zX z)) (o : Int32 × fb_S) (x0 : Int32) (st : fb_S) (hF : f_J_bitCount x0 st = some o) : fb_G p l e (headSpec kw_J_bitCount rm_J_bitCount).room s m args below meth c (dC, dI) vcl (tX dA) (wX dA a) A (some (.int o.1)) o.2 0 1 [(0, .int x0)] [] st := by
  intro H locs hP hD hS ls hl
  obtain ⟨hx, hb, hr, hml, hown, hts, hK, hA, hlocks, hZ⟩ := id CX
  unfold f_J_bitCount at hF
  refine lv_iload_n hx hb kd_J_bitCount_0 rfl (lv_at hl 0 rfl) ?_
  refine lv_iload_n hx hb kd_J_bitCount_1 rfl (lv_at hl 0 rfl) ?_
  refine lv_iconst (v := 1) hx hb kd_J_bitCount_2 (by decide) ?_
  refine lv_iushr (v := fb_us x0 (1 : Int32)) hx hb kd_J_bitCount_3 rfl ?_
  refine lv_ldcw (v := 1431655765) hx hb hown (hts _ q_176) kd_J_bitCount_4 ?_
  refine lv_iand hx hb kd_J_bitCount_7 ?_
  refine lv_isub hx hb kd_J_bitCount_8 ?_
  refine lv_istore_n (lv' := [(0, .int (x0 - ((fb_us x0 (1 : Int32)) &&& (1431655765 : Int32))))]) hx hb kd_J_bitCount_9 rfl hl (by decide) rfl (fun ls hl => ?_)
  refine lv_iload_n hx hb kd_J_bitCount_10 rfl (lv_at hl 0 rfl) ?_
  refine lv_ldcw (v := 858993459) hx hb hown (hts _ q_177) kd_J_bitCount_11 ?_
  refine lv_iand hx hb kd_J_bitCount_14 ?_
  refine lv_iload_n hx hb kd_J_bitCount_15 rfl (lv_at hl 0 rfl) ?_
  refine lv_iconst (v := 2) hx hb kd_J_bitCount_16 (by decide) ?_
  refine lv_iushr (v := fb_us (x0 - ((fb_us x0 (1 : Int32)) &&& (1431655765 : Int32))) (2 : Int32)) hx hb kd_J_bitCount_17 rfl ?_
  refine lv_ldcw (v := 858993459) hx hb hown (hts _ q_177) kd_J_bitCount_18 ?_
  refine lv_iand hx hb kd_J_bitCount_21 ?_
  refine lv_iadd hx hb kd_J_bitCount_22 ?_
  refine lv_istore_n (lv' := [(0, .int (((x0 - ((fb_us x0 (1 : Int32)) &&& (1431655765 : Int32))) &&& (858993459 : Int32)) + ((fb_us (x0 - ((fb_us x0 (1 : Int32)) &&& (1431655765 : Int32))) (2 : Int32)) &&& (858993459 : Int32))))]) hx hb kd_J_bitCount_23 rfl hl (by decide) rfl (fun ls hl => ?_)
  refine lv_iload_n hx hb kd_J_bitCount_24 rfl (lv_at hl 0 rfl) ?_
  refine lv_iload_n hx hb kd_J_bitCount_25 rfl (lv_at hl 0 rfl) ?_
  refine lv_iconst (v := 4) hx hb kd_J_bitCount_26 (by decide) ?_
  refine lv_iushr (v := fb_us (((x0 - ((fb_us x0 (1 : Int32)) &&& (1431655765 : Int32))) &&& (858993459 : Int32)) + ((fb_us (x0 - ((fb_us x0 (1 : Int32)) &&& (1431655765 : Int32))) (2 : Int32)) &&& (858993459 : Int32))) (4 : Int32)) hx hb kd_J_bitCount_27 rfl ?_
  refine lv_iadd hx hb kd_J_bitCount_28 ?_
  refine lv_ldcw (v := 252645135) hx hb hown (hts _ q_178) kd_J_bitCount_29 ?_
  refine lv_iand hx hb kd_J_bitCount_32 ?_
  refine lv_istore_n (lv' := [(0, .int (((((x0 - ((fb_us x0 (1 : Int32)) &&& (1431655765 : Int32))) &&& (858993459 : Int32)) + ((fb_us (x0 - ((fb_us x0 (1 : Int32)) &&& (1431655765 : Int32))) (2 : Int32)) &&& (858993459 : Int32))) + (fb_us (((x0 - ((fb_us x0 (1 : Int32)) &&& (1431655765 : Int32))) &&& (858993459 : Int32)) + ((fb_us (x0 - ((fb_us x0 (1 : Int32)) &&& (1431655765 : Int32))) (2 : Int32)) &&& (858993459 : Int32))) (4 : Int32))) &&& (252645135 : Int32)))]) hx hb kd_J_bitCount_33 rfl hl (by decide) rfl (fun ls hl => ?_)
  refine lv_iload_n hx hb kd_J_bitCount_34 rfl (lv_at hl 0 rfl) ?_
  refine lv_iload_n hx hb kd_J_bitCount_35 rfl (lv_at hl 0 rfl) ?_
  refine lv_bipush (v := 8) hx hb kd_J_bitCount_36 (by decide) ?_
  refine lv_iushr (v := fb_us (((((x0 - ((fb_us x0 (1 : Int32)) &&& (1431655765 : Int32))) &&& (858993459 : Int32)) + ((fb_us (x0 - ((fb_us x0 (1 : Int32)) &&& (1431655765 : Int32))) (2 : Int32)) &&& (858993459 : Int32))) + (fb_us (((x0 - ((fb_us x0 (1 : Int32)) &&& (1431655765 : Int32))) &&& (858993459 : Int32)) + ((fb_us (x0 - ((fb_us x0 (1 : Int32)) &&& (1431655765 : Int32))) (2 : Int32)) &&& (858993459 : Int32))) (4 : Int32))) &&& (252645135 : Int32)) (8 : Int32)) hx hb kd_J_bitCount_38 rfl ?_
  refine lv_iadd hx hb kd_J_bitCount_39 ?_
  refine lv_istore_n (lv' := [(0, .int ((((((x0 - ((fb_us x0 (1 : Int32)) &&& (1431655765 : Int32))) &&& (858993459 : Int32)) + ((fb_us (x0 - ((fb_us x0 (1 : Int32)) &&& (1431655765 : Int32))) (2 : Int32)) &&& (858993459 : Int32))) + (fb_us (((x0 - ((fb_us x0 (1 : Int32)) &&& (1431655765 : Int32))) &&& (858993459 : Int32)) + ((fb_us (x0 - ((fb_us x0 (1 : Int32)) &&& (1431655765 : Int32))) (2 : Int32)) &&& (858993459 : Int32))) (4 : Int32))) &&& (252645135 : Int32)) + (fb_us (((((x0 - ((fb_us x0 (1 : Int32)) &&& (1431655765 : Int32))) &&& (858993459 : Int32)) + ((fb_us (x0 - ((fb_us x0 (1 : Int32)) &&& (1431655765 : Int32))) (2 : Int32)) &&& (858993459 : Int32))) + (fb_us (((x0 - ((fb_us x0 (1 : Int32)) &&& (1431655765 : Int32))) &&& (858993459 : Int32)) + ((fb_us (x0 - ((fb_us x0 (1 : Int32)) &&& (1431655765 : Int32))) (2 : Int32)) &&& (858993459 : Int32))) (4 : Int32))) &&& (252645135 : Int32)) (8 : Int32))))]) hx hb kd_J_bitCount_40 rfl hl (by decide) rfl (fun ls hl => ?_)
  refine lv_iload_n hx hb kd_J_bitCount_41 rfl (lv_at hl 0 rfl) ?_
  refine lv_iload_n hx hb kd_J_bitCount_42 rfl (lv_at hl 0 rfl) ?_
  refine lv_bipush (v := 16) hx hb kd_J_bitCount_43 (by decide) ?_
  refine lv_iushr (v := fb_us ((((((x0 - ((fb_us x0 (1 : Int32)) &&& (1431655765 : Int32))) &&& (858993459 : Int32)) + ((fb_us (x0 - ((fb_us x0 (1 : Int32)) &&& (1431655765 : Int32))) (2 : Int32)) &&& (858993459 : Int32))) + (fb_us (((x0 - ((fb_us x0 (1 : Int32)) &&& (1431655765 : Int32))) &&& (858993459 : Int32)) + ((fb_us (x0 - ((fb_us x0 (1 : Int32)) &&& (1431655765 : Int32))) (2 : Int32)) &&& (858993459 : Int32))) (4 : Int32))) &&& (252645135 : Int32)) + (fb_us (((((x0 - ((fb_us x0 (1 : Int32)) &&& (1431655765 : Int32))) &&& (858993459 : Int32)) + ((fb_us (x0 - ((fb_us x0 (1 : Int32)) &&& (1431655765 : Int32))) (2 : Int32)) &&& (858993459 : Int32))) + (fb_us (((x0 - ((fb_us x0 (1 : Int32)) &&& (1431655765 : Int32))) &&& (858993459 : Int32)) + ((fb_us (x0 - ((fb_us x0 (1 : Int32)) &&& (1431655765 : Int32))) (2 : Int32)) &&& (858993459 : Int32))) (4 : Int32))) &&& (252645135 : Int32)) (8 : Int32))) (16 : Int32)) hx hb kd_J_bitCount_45 rfl ?_
  refine lv_iadd hx hb kd_J_bitCount_46 ?_
  refine lv_istore_n (lv' := [(0, .int (((((((x0 - ((fb_us x0 (1 : Int32)) &&& (1431655765 : Int32))) &&& (858993459 : Int32)) + ((fb_us (x0 - ((fb_us x0 (1 : Int32)) &&& (1431655765 : Int32))) (2 : Int32)) &&& (858993459 : Int32))) + (fb_us (((x0 - ((fb_us x0 (1 : Int32)) &&& (1431655765 : Int32))) &&& (858993459 : Int32)) + ((fb_us (x0 - ((fb_us x0 (1 : Int32)) &&& (1431655765 : Int32))) (2 : Int32)) &&& (858993459 : Int32))) (4 : Int32))) &&& (252645135 : Int32)) + (fb_us (((((x0 - ((fb_us x0 (1 : Int32)) &&& (1431655765 : Int32))) &&& (858993459 : Int32)) + ((fb_us (x0 - ((fb_us x0 (1 : Int32)) &&& (1431655765 : Int32))) (2 : Int32)) &&& (858993459 : Int32))) + (fb_us (((x0 - ((fb_us x0 (1 : Int32)) &&& (1431655765 : Int32))) &&& (858993459 : Int32)) + ((fb_us (x0 - ((fb_us x0 (1 : Int32)) &&& (1431655765 : Int32))) (2 : Int32)) &&& (858993459 : Int32))) (4 : Int32))) &&& (252645135 : Int32)) (8 : Int32))) + (fb_us ((((((x0 - ((fb_us x0 (1 : Int32)) &&& (1431655765 : Int32))) &&& (858993459 : Int32)) + ((fb_us (x0 - ((fb_us x0 (1 : Int32)) &&& (1431655765 : Int32))) (2 : Int32)) &&& (858993459 : Int32))) + (fb_us (((x0 - ((fb_us x0 (1 : Int32)) &&& (1431655765 : Int32))) &&& (858993459 : Int32)) + ((fb_us (x0 - ((fb_us x0 (1 : Int32)) &&& (1431655765 : Int32))) (2 : Int32)) &&& (858993459 : Int32))) (4 : Int32))) &&& (252645135 : Int32)) + (fb_us (((((x0 - ((fb_us x0 (1 : Int32)) &&& (1431655765 : Int32))) &&& (858993459 : Int32)) + ((fb_us (x0 - ((fb_us x0 (1 : Int32)) &&& (1431655765 : Int32))) (2 : Int32)) &&& (858993459 : Int32))) + (fb_us (((x0 - ((fb_us x0 (1 : Int32)) &&& (1431655765 : Int32))) &&& (858993459 : Int32)) + ((fb_us (x0 - ((fb_us x0 (1 : Int32)) &&& (1431655765 : Int32))) (2 : Int32)) &&& (858993459 : Int32))) (4 : Int32))) &&& (252645135 : Int32)) (8 : Int32))) (16 : Int32))))]) hx hb kd_J_bitCount_47 rfl hl (by decide) rfl (fun ls hl => ?_)
  refine lv_iload_n hx hb kd_J_bitCount_48 rfl (lv_at hl 0 rfl) ?_
  refine lv_bipush (v := 63) hx hb kd_J_bitCount_49 (by decide) ?_
  refine lv_iand hx hb kd_J_bitCount_51 ?_
  exact fb_ri (o := o) hx hb hr hlocks hK hP hD hS hF kd_J_bitCount_52
theorem c_J_bitCount (l : Launch) (dC : Nat → ClassId) (dI : Nat → Nat → Nat) (dA : Nat → ClassId) (a : Nat → Nat) (z : Nat → Nat) (x0 : Int32) (st : fb_S) (o : Int32 × fb_S) (h : f_J_bitCount x0 st = some o) : fb_M l ky_J_bitCount kw_J_bitCount rm_J_bitCount (dC, dI) vcl (tX dA) (wX dA a) (zX z) [.int x0] (some (.int o.1)) st o.2 := fb_enter (by decide) rfl (Nat.le_of_ble_eq_true rfl) (fun p e s m below meth c A CX hP hD hS ls hl => w_J_bitCount_0 CX o x0 st h s.heap [] hP hD hS ls hl)
abbrev rm_K_freeBlocks : Room := { frames := 1, cells := 0, slots := 0, locals := 22 }
def b_K_freeBlocks_4 (k4 : Int32 → Int32 → fb_S → Option (Int32 × fb_S)) (x1 : Int32) (x2 : Int32) (st : fb_S) : Option (Int32 × fb_S) := (if (512 : Int32) ≤ x2 then some ((512 : Int32) - x1, st) else (f_K_numberAt ((37888 : Int32) + (x2 / (8 : Int32))) st).bind fun r2 => (f_J_bitCount r2.1 r2.2).bind fun r3 => k4 (x1 + r3.1) (x2 + (32 : Int32)) r3.2)
set_option maxHeartbeats 4000000 in
set_option maxRecDepth 100000 in
theorem w_K_freeBlocks_4 {p : Program} {l : Launch} {e : Env} {s : State} {m : MethodId} {args : Array Value} {below : List Frame} {meth : Method} {c : Code} {A : Nat → Prop} {dC : Nat → ClassId} {dI : Nat → Nat → Nat} {dA : Nat → ClassId} {a : Nat → Nat} {z : Nat → Nat} (CX : fb_C p s m args meth c kc_K_freeBlocks (some .int) 3 "FileTree$Disk" (dC, dI) vcl (tX dA) A (zX z)) (o : Int32 × fb_S) (k4 : Int32 → Int32 → fb_S → Option (Int32 × fb_S)) (hk4 : ∀ (x1 : Int32) (x2 : Int32) (st : fb_S), k4 x1 x2 st = some o → fb_G p l e (headSpec kw_K_freeBlocks rm_K_freeBlocks).room s m args below meth c (dC, dI) vcl (tX dA) (wX dA a) A (some (.int o.1)) o.2 4 3 [(0, .ref (a 3)), (1, .int x1), (2, .int x2)] [] st) (x1 : Int32) (x2 : Int32) (st : fb_S) (hF : b_K_freeBlocks_4 k4 x1 x2 st = some o) : fb_G p l e (headSpec kw_K_freeBlocks rm_K_freeBlocks).room s m args below meth c (dC, dI) vcl (tX dA) (wX dA a) A (some (.int o.1)) o.2 4 3 [(0, .ref (a 3)), (1, .int x1), (2, .int x2)] [] st := by
  intro H locs hP hD hS ls hl
  obtain ⟨hx, hb, hr, hml, hown, hts, hK, hA, hlocks, hZ⟩ := id CX
  unfold b_K_freeBlocks_4 at hF
  refine lv_iload_n hx hb kd_K_freeBlocks_4 rfl (lv_at hl 2 rfl) ?_
  refine lv_sipush (v := 512) hx hb kd_K_freeBlocks_5 (by decide) ?_
  refine lv_icmp_ge (tgt := 34) hx hb kd_K_freeBlocks_8 (by decide) (fun c1 => ?_) (fun c1 => ?_)
  · rw [if_pos c1] at hF
    refine lv_sipush (v := 512) hx hb kd_K_freeBlocks_34 (by decide) ?_
    refine lv_iload_n hx hb kd_K_freeBlocks_37 rfl (lv_at hl 1 rfl) ?_
    refine lv_isub hx hb kd_K_freeBlocks_38 ?_
    exact fb_ri (o := o) hx hb hr hlocks hK hP hD hS hF kd_K_freeBlocks_39
  · rw [if_neg c1] at hF
    refine lv_iload_n hx hb kd_K_freeBlocks_11 rfl (lv_at hl 1 rfl) ?_
    refine lv_aload_n hx hb kd_K_freeBlocks_12 rfl (lv_at hl 0 rfl) ?_
    refine lv_ldc (v := 37888) hx hb hown (hts _ q_95) kd_K_freeBlocks_13 ?_
    refine lv_iload_n hx hb kd_K_freeBlocks_15 rfl (lv_at hl 2 rfl) ?_
    refine lv_bipush (v := 8) hx hb kd_K_freeBlocks_16 (by decide) ?_
    refine lv_idiv hx hb kd_K_freeBlocks_18 (by decide) ?_
    refine lv_iadd hx hb kd_K_freeBlocks_19 ?_
    obtain ⟨r2, e_r2, hF⟩ := fb_ob hF
    refine fb_callV (As := [.int ((37888 : Int32) + (x2 / (8 : Int32)))]) (rest := [.int x1]) ⟨hx, hb, hml, hown, hts⟩ zX_mv hZ hK hP hD hS hA (c_K_numberAt l dC dI dA a z ((37888 : Int32) + (x2 / (8 : Int32))) st r2 e_r2) (cwV 1 hts (gd_V q_172 ko_K_numberAt) rfl rfl rfl kh_K_numberAt ⟨Nat.le_of_ble_eq_true rfl, Nat.le_of_ble_eq_true rfl⟩) 1 3 rfl rfl rfl rfl hl.1 rfl (Nat.le_of_ble_eq_true rfl) kd_K_freeBlocks_20 ⟨Nat.zero_le _, Nat.zero_le _⟩ (fun H locs hP hD hS => ?_)
    refine W.eq (g2 := F0 m 23 ls [.int r2.1, .int x1]) rfl ?_
    obtain ⟨r3, e_r3, hF⟩ := fb_ob hF
    refine fb_callS (As := [.int r2.1]) (rest := [.int x1]) ⟨hx, hb, hml, hown, hts⟩ zX_mv hZ hK hP hD hS hA (c_J_bitCount l dC dI dA a z r2.1 r2.2 r3 e_r3) (va_cwS 1 hts (gd_S q_173 ko_J_bitCount) rfl rfl rfl kh_J_bitCount ⟨Nat.le_of_ble_eq_true rfl, Nat.le_of_ble_eq_true rfl⟩) rfl hl.1 rfl (Nat.le_of_ble_eq_true rfl) kd_K_freeBlocks_23 ⟨Nat.zero_le _, Nat.zero_le _⟩ (fun H locs hP hD hS => ?_)
    refine W.eq (g2 := F0 m 26 ls [.int r3.1, .int x1]) rfl ?_
    refine lv_iadd hx hb kd_K_freeBlocks_26 ?_
    refine lv_istore_n (lv' := [(1, .int (x1 + r3.1)), (0, .ref (a 3)), (2, .int x2)]) hx hb kd_K_freeBlocks_27 rfl hl (by decide) rfl (fun ls hl => ?_)
    refine lv_iinc (v := x2 + (32 : Int32)) (lv' := [(2, .int (x2 + (32 : Int32))), (1, .int (x1 + r3.1)), (0, .ref (a 3))]) hx hb kd_K_freeBlocks_28 hl (k := 2) rfl rfl (by decide) rfl (fun ls hl => ?_)
    refine lv_goto (tgt := 4) hx hb kd_K_freeBlocks_31 (by decide) ?_
    exact hk4 (x1 + r3.1) (x2 + (32 : Int32)) r3.2 hF H locs hP hD hS ls (lv_sub hl [2, 1, 0] rfl)
def l_K_freeBlocks_4 : Nat → Int32 → Int32 → fb_S → Option (Int32 × fb_S)
  | 0 => fun _ _ _ => none
  | n + 1 => b_K_freeBlocks_4 (l_K_freeBlocks_4 n)
theorem v_K_freeBlocks_4 {p : Program} {l : Launch} {e : Env} {s : State} {m : MethodId} {args : Array Value} {below : List Frame} {meth : Method} {c : Code} {A : Nat → Prop} {dC : Nat → ClassId} {dI : Nat → Nat → Nat} {dA : Nat → ClassId} {a : Nat → Nat} {z : Nat → Nat} (CX : fb_C p s m args meth c kc_K_freeBlocks (some .int) 3 "FileTree$Disk" (dC, dI) vcl (tX dA) A (zX z)) (o : Int32 × fb_S) (n : Nat) : ∀ (x1 : Int32) (x2 : Int32) (st : fb_S), l_K_freeBlocks_4 n x1 x2 st = some o → fb_G p l e (headSpec kw_K_freeBlocks rm_K_freeBlocks).room s m args below meth c (dC, dI) vcl (tX dA) (wX dA a) A (some (.int o.1)) o.2 4 3 [(0, .ref (a 3)), (1, .int x1), (2, .int x2)] [] st := by
  induction n with
  | zero => intro x1 x2 st hF; cases hF
  | succ n ih => intro x1 x2 st hF; exact w_K_freeBlocks_4 CX o (l_K_freeBlocks_4 n) ih x1 x2 st hF
def f_K_freeBlocks (st : fb_S) : Option (Int32 × fb_S) := l_K_freeBlocks_4 fb_n (0 : Int32) (0 : Int32) st
set_option maxHeartbeats 4000000 in
set_option maxRecDepth 100000 in
theorem w_K_freeBlocks_0 {p : Program} {l : Launch} {e : Env} {s : State} {m : MethodId} {args : Array Value} {below : List Frame} {meth : Method} {c : Code} {A : Nat → Prop} {dC : Nat → ClassId} {dI : Nat → Nat → Nat} {dA : Nat → ClassId} {a : Nat → Nat} {z : Nat → Nat} (CX : fb_C p s m args meth c kc_K_freeBlocks (some .int) 3 "FileTree$Disk" (dC, dI) vcl (tX dA) A (zX z)) (o : Int32 × fb_S) (st : fb_S) (hF : f_K_freeBlocks st = some o) : fb_G p l e (headSpec kw_K_freeBlocks rm_K_freeBlocks).room s m args below meth c (dC, dI) vcl (tX dA) (wX dA a) A (some (.int o.1)) o.2 0 3 [(0, .ref (a 3))] [] st := by
  intro H locs hP hD hS ls hl
  obtain ⟨hx, hb, hr, hml, hown, hts, hK, hA, hlocks, hZ⟩ := id CX
  unfold f_K_freeBlocks at hF
  refine lv_iconst (v := 0) hx hb kd_K_freeBlocks_0 (by decide) ?_
  refine lv_istore_n (lv' := [(1, .int (0 : Int32)), (0, .ref (a 3))]) hx hb kd_K_freeBlocks_1 rfl hl (by decide) rfl (fun ls hl => ?_)
  refine lv_iconst (v := 0) hx hb kd_K_freeBlocks_2 (by decide) ?_
  refine lv_istore_n (lv' := [(2, .int (0 : Int32)), (1, .int (0 : Int32)), (0, .ref (a 3))]) hx hb kd_K_freeBlocks_3 rfl hl (by decide) rfl (fun ls hl => ?_)
  exact v_K_freeBlocks_4 CX o fb_n (0 : Int32) (0 : Int32) st hF H locs hP hD hS ls (lv_sub hl [2, 1, 0] rfl)
theorem c_K_freeBlocks (l : Launch) (dC : Nat → ClassId) (dI : Nat → Nat → Nat) (dA : Nat → ClassId) (a : Nat → Nat) (z : Nat → Nat) (st : fb_S) (o : Int32 × fb_S) (h : f_K_freeBlocks st = some o) : fb_M l ky_K_freeBlocks kw_K_freeBlocks rm_K_freeBlocks (dC, dI) vcl (tX dA) (wX dA a) (zX z) [.ref (a 3)] (some (.int o.1)) st o.2 := fb_enter (by decide) rfl (Nat.le_of_ble_eq_true rfl) (fun p e s m below meth c A CX hP hD hS ls hl => w_K_freeBlocks_0 CX o st h s.heap [] hP hD hS ls hl)
abbrev rm_K_wipe : Room := { frames := 1, cells := 0, slots := 0, locals := 23 }
def b_K_wipe_2 (k2 : Int32 → Int32 → Int32 → fb_S → Option (Int32 × fb_S)) (x1 : Int32) (x2 : Int32) (x3 : Int32) (st : fb_S) : Option (Int32 × fb_S) := (if x2 ≤ x3 then some (0, st) else (f_K_setNumber (x1 + x3) (0 : Int32) st).bind fun r2 => k2 x1 x2 (x3 + (4 : Int32)) r2.2)
set_option maxHeartbeats 4000000 in
set_option maxRecDepth 100000 in
theorem w_K_wipe_2 {p : Program} {l : Launch} {e : Env} {s : State} {m : MethodId} {args : Array Value} {below : List Frame} {meth : Method} {c : Code} {A : Nat → Prop} {dC : Nat → ClassId} {dI : Nat → Nat → Nat} {dA : Nat → ClassId} {a : Nat → Nat} {z : Nat → Nat} (CX : fb_C p s m args meth c kc_K_wipe none 4 "FileTree$Disk" (dC, dI) vcl (tX dA) A (zX z)) (o : Int32 × fb_S) (k2 : Int32 → Int32 → Int32 → fb_S → Option (Int32 × fb_S)) (hk2 : ∀ (x1 : Int32) (x2 : Int32) (x3 : Int32) (st : fb_S), k2 x1 x2 x3 st = some o → fb_G p l e (headSpec kw_K_wipe rm_K_wipe).room s m args below meth c (dC, dI) vcl (tX dA) (wX dA a) A none o.2 2 4 [(0, .ref (a 3)), (1, .int x1), (2, .int x2), (3, .int x3)] [] st) (x1 : Int32) (x2 : Int32) (x3 : Int32) (st : fb_S) (hF : b_K_wipe_2 k2 x1 x2 x3 st = some o) : fb_G p l e (headSpec kw_K_wipe rm_K_wipe).room s m args below meth c (dC, dI) vcl (tX dA) (wX dA a) A none o.2 2 4 [(0, .ref (a 3)), (1, .int x1), (2, .int x2), (3, .int x3)] [] st := by
  intro H locs hP hD hS ls hl
  obtain ⟨hx, hb, hr, hml, hown, hts, hK, hA, hlocks, hZ⟩ := id CX
  unfold b_K_wipe_2 at hF
  refine lv_iload_n hx hb kd_K_wipe_2 rfl (lv_at hl 3 rfl) ?_
  refine lv_iload_n hx hb kd_K_wipe_3 rfl (lv_at hl 2 rfl) ?_
  refine lv_icmp_ge (tgt := 21) hx hb kd_K_wipe_4 (by decide) (fun c1 => ?_) (fun c1 => ?_)
  · rw [if_pos c1] at hF
    exact fb_rv (o := o) hx hb hr hlocks hK hP hD hS hF kd_K_wipe_21
  · rw [if_neg c1] at hF
    refine lv_aload_n hx hb kd_K_wipe_7 rfl (lv_at hl 0 rfl) ?_
    refine lv_iload_n hx hb kd_K_wipe_8 rfl (lv_at hl 1 rfl) ?_
    refine lv_iload_n hx hb kd_K_wipe_9 rfl (lv_at hl 3 rfl) ?_
    refine lv_iadd hx hb kd_K_wipe_10 ?_
    refine lv_iconst (v := 0) hx hb kd_K_wipe_11 (by decide) ?_
    obtain ⟨r2, e_r2, hF⟩ := fb_ob hF
    refine fb_callV (As := [.int (x1 + x3), .int (0 : Int32)]) (rest := []) ⟨hx, hb, hml, hown, hts⟩ zX_mv hZ hK hP hD hS hA (c_K_setNumber l dC dI dA a z (x1 + x3) (0 : Int32) st r2 e_r2) (cwV 2 hts (gd_V q_87 ko_K_setNumber) rfl rfl rfl kh_K_setNumber ⟨Nat.le_of_ble_eq_true rfl, Nat.le_of_ble_eq_true rfl⟩) 1 3 rfl rfl rfl rfl hl.1 rfl (Nat.le_of_ble_eq_true rfl) kd_K_wipe_12 ⟨Nat.zero_le _, Nat.zero_le _⟩ (fun H locs hP hD hS => ?_)
    refine W.eq (g2 := F0 m 15 ls []) rfl ?_
    refine lv_iinc (v := x3 + (4 : Int32)) (lv' := [(3, .int (x3 + (4 : Int32))), (0, .ref (a 3)), (1, .int x1), (2, .int x2)]) hx hb kd_K_wipe_15 hl (k := 3) rfl rfl (by decide) rfl (fun ls hl => ?_)
    refine lv_goto (tgt := 2) hx hb kd_K_wipe_18 (by decide) ?_
    exact hk2 x1 x2 (x3 + (4 : Int32)) r2.2 hF H locs hP hD hS ls (lv_sub hl [1, 2, 3, 0] rfl)
def l_K_wipe_2 : Nat → Int32 → Int32 → Int32 → fb_S → Option (Int32 × fb_S)
  | 0 => fun _ _ _ _ => none
  | n + 1 => b_K_wipe_2 (l_K_wipe_2 n)
theorem v_K_wipe_2 {p : Program} {l : Launch} {e : Env} {s : State} {m : MethodId} {args : Array Value} {below : List Frame} {meth : Method} {c : Code} {A : Nat → Prop} {dC : Nat → ClassId} {dI : Nat → Nat → Nat} {dA : Nat → ClassId} {a : Nat → Nat} {z : Nat → Nat} (CX : fb_C p s m args meth c kc_K_wipe none 4 "FileTree$Disk" (dC, dI) vcl (tX dA) A (zX z)) (o : Int32 × fb_S) (n : Nat) : ∀ (x1 : Int32) (x2 : Int32) (x3 : Int32) (st : fb_S), l_K_wipe_2 n x1 x2 x3 st = some o → fb_G p l e (headSpec kw_K_wipe rm_K_wipe).room s m args below meth c (dC, dI) vcl (tX dA) (wX dA a) A none o.2 2 4 [(0, .ref (a 3)), (1, .int x1), (2, .int x2), (3, .int x3)] [] st := by
  induction n with
  | zero => intro x1 x2 x3 st hF; cases hF
  | succ n ih => intro x1 x2 x3 st hF; exact w_K_wipe_2 CX o (l_K_wipe_2 n) ih x1 x2 x3 st hF
def f_K_wipe (x1 : Int32) (x2 : Int32) (st : fb_S) : Option (Int32 × fb_S) := l_K_wipe_2 fb_n x1 x2 (0 : Int32) st
set_option maxHeartbeats 4000000 in
set_option maxRecDepth 100000 in
theorem w_K_wipe_0 {p : Program} {l : Launch} {e : Env} {s : State} {m : MethodId} {args : Array Value} {below : List Frame} {meth : Method} {c : Code} {A : Nat → Prop} {dC : Nat → ClassId} {dI : Nat → Nat → Nat} {dA : Nat → ClassId} {a : Nat → Nat} {z : Nat → Nat} (CX : fb_C p s m args meth c kc_K_wipe none 4 "FileTree$Disk" (dC, dI) vcl (tX dA) A (zX z)) (o : Int32 × fb_S) (x1 : Int32) (x2 : Int32) (st : fb_S) (hF : f_K_wipe x1 x2 st = some o) : fb_G p l e (headSpec kw_K_wipe rm_K_wipe).room s m args below meth c (dC, dI) vcl (tX dA) (wX dA a) A none o.2 0 4 [(0, .ref (a 3)), (1, .int x1), (2, .int x2)] [] st := by
  intro H locs hP hD hS ls hl
  obtain ⟨hx, hb, hr, hml, hown, hts, hK, hA, hlocks, hZ⟩ := id CX
  unfold f_K_wipe at hF
  refine lv_iconst (v := 0) hx hb kd_K_wipe_0 (by decide) ?_
  refine lv_istore_n (lv' := [(3, .int (0 : Int32)), (0, .ref (a 3)), (1, .int x1), (2, .int x2)]) hx hb kd_K_wipe_1 rfl hl (by decide) rfl (fun ls hl => ?_)
  exact v_K_wipe_2 CX o fb_n x1 x2 (0 : Int32) st hF H locs hP hD hS ls (lv_sub hl [1, 2, 3, 0] rfl)
theorem c_K_wipe (l : Launch) (dC : Nat → ClassId) (dI : Nat → Nat → Nat) (dA : Nat → ClassId) (a : Nat → Nat) (z : Nat → Nat) (x1 : Int32) (x2 : Int32) (st : fb_S) (o : Int32 × fb_S) (h : f_K_wipe x1 x2 st = some o) : fb_M l ky_K_wipe kw_K_wipe rm_K_wipe (dC, dI) vcl (tX dA) (wX dA a) (zX z) [.ref (a 3), .int x1, .int x2] none st o.2 := fb_enter (by decide) rfl (Nat.le_of_ble_eq_true rfl) (fun p e s m below meth c A CX hP hD hS ls hl => w_K_wipe_0 CX o x1 x2 st h s.heap [] hP hD hS ls hl)
