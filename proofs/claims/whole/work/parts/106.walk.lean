abbrev rm_D_hasRoom : Room := { frames := 4, cells := 0, slots := 0, locals := 92 }
def b_D_hasRoom_76 (x4 : Int32) (st : fb_S) : Option (Int32 × fb_S) := (f_K_freeBlocks st).bind fun r1 => (if r1.1 < x4 then fb_rz (0 : Int32) r1.2 else fb_rz (1 : Int32) r1.2)
set_option maxHeartbeats 4000000 in
set_option maxRecDepth 100000 in
theorem w_D_hasRoom_76 {p : Program} {l : Launch} {e : Env} {s : State} {m : MethodId} {args : Array Value} {below : List Frame} {meth : Method} {c : Code} {A : Nat → Prop} {dC : Nat → ClassId} {dI : Nat → Nat → Nat} {dA : Nat → ClassId} {a : Nat → Nat} {z : Nat → Nat} (CX : fb_C p s m args meth c kc_D_hasRoom (some .boolean) 5 "FileTree$Directories" (dC, dI) vcl (tX dA) A (zX z)) (o : Int32 × fb_S) (x4 : Int32) (st : fb_S) (hF : b_D_hasRoom_76 x4 st = some o) : fb_G p l e (headSpec kw_D_hasRoom rm_D_hasRoom).room s m args below meth c (dC, dI) vcl (tX dA) (wX dA a) A (some (.int o.1)) o.2 76 5 [(0, .ref (a 1)), (4, .int x4)] [] st := by
  intro H locs hP hD hS ls hl
  obtain ⟨hx, hb, hr, hml, hown, hts, hK, hA, hlocks, hZ⟩ := id CX
  unfold b_D_hasRoom_76 at hF
  refine lv_iload hx hb kd_D_hasRoom_76 (lv_at hl 1 rfl) ?_
  refine lv_aload_n hx hb kd_D_hasRoom_78 rfl (lv_at hl 0 rfl) ?_
  refine va_get (D := (dC, dI)) (ci := 0) (v := .ref (a 3)) (C := "FileTree$Directories") (T := ft_D) (N := 2) hx hb hts fi_D hown hK hP 1 rfl rfl 1 (by decide) (hts _ q_52) (fun _ h9 => h9) rfl kd_D_hasRoom_79 ?_
  obtain ⟨r1, e_r1, hF⟩ := fb_ob hF
  refine fb_callV (As := []) (rest := [.int x4]) ⟨hx, hb, hml, hown, hts⟩ zX_mv hZ hK hP hD hS hA (c_K_freeBlocks l dC dI dA a z st r1 e_r1) (cwV 0 hts (gd_V q_300 ko_K_freeBlocks) rfl rfl rfl kh_K_freeBlocks ⟨Nat.le_of_ble_eq_true rfl, Nat.le_of_ble_eq_true rfl⟩) 1 3 rfl rfl rfl rfl hl.1 rfl (Nat.le_of_ble_eq_true rfl) kd_D_hasRoom_82 ⟨Nat.zero_le _, Nat.zero_le _⟩ (fun H locs hP hD hS => ?_)
  refine W.eq (g2 := F0 m 85 ls [.int r1.1, .int x4]) rfl ?_
  refine lv_icmp_gt (tgt := 92) hx hb kd_D_hasRoom_85 (by decide) (fun c2 => ?_) (fun c2 => ?_)
  · rw [if_pos c2] at hF
    refine lv_iconst (v := 0) hx hb kd_D_hasRoom_92 (by decide) ?_
    exact fb_rb (o := o) hx hb hr hlocks hK hP hD hS hF kd_D_hasRoom_93
  · rw [if_neg c2] at hF
    refine lv_iconst (v := 1) hx hb kd_D_hasRoom_88 (by decide) ?_
    refine lv_goto (tgt := 93) hx hb kd_D_hasRoom_89 (by decide) ?_
    exact fb_rb (o := o) hx hb hr hlocks hK hP hD hS hF kd_D_hasRoom_93
def f_D_hasRoom (x1 : Int32) (x2 : Int32) (st : fb_S) : Option (Int32 × fb_S) := (f_I_kindOf x1 st).bind fun r1 => (if r1.1 = (1 : Int32) then (f_I_linksOf x1 r1.2).bind fun r3 => (if r3.1 = (0 : Int32) then fb_rz (0 : Int32) r3.2 else (f_D_sizeOf x1 r3.2).bind fun r5 => (f_D_freeEntry x1 r5.2).bind fun r6 => (if r6.1 = (-1 : Int32) then (if r5.1 ≤ (274416 : Int32) then (if (r5.1 - r5.1 / (1024 : Int32) * (1024 : Int32)) = (0 : Int32) then (f_I_blocksToAdd (r5.1 / (1024 : Int32)) r6.2).bind fun r10 => b_D_hasRoom_76 (x2 + r10.1) r10.2 else b_D_hasRoom_76 x2 r6.2) else fb_rz (0 : Int32) r6.2) else b_D_hasRoom_76 x2 r6.2)) else fb_rz (0 : Int32) r1.2)
set_option maxHeartbeats 4000000 in
set_option maxRecDepth 100000 in
theorem w_D_hasRoom_0 {p : Program} {l : Launch} {e : Env} {s : State} {m : MethodId} {args : Array Value} {below : List Frame} {meth : Method} {c : Code} {A : Nat → Prop} {dC : Nat → ClassId} {dI : Nat → Nat → Nat} {dA : Nat → ClassId} {a : Nat → Nat} {z : Nat → Nat} (CX : fb_C p s m args meth c kc_D_hasRoom (some .boolean) 5 "FileTree$Directories" (dC, dI) vcl (tX dA) A (zX z)) (o : Int32 × fb_S) (x1 : Int32) (x2 : Int32) (st : fb_S) (hF : f_D_hasRoom x1 x2 st = some o) : fb_G p l e (headSpec kw_D_hasRoom rm_D_hasRoom).room s m args below meth c (dC, dI) vcl (tX dA) (wX dA a) A (some (.int o.1)) o.2 0 5 [(0, .ref (a 1)), (1, .int x1), (2, .int x2)] [] st := by
  intro H locs hP hD hS ls hl
  obtain ⟨hx, hb, hr, hml, hown, hts, hK, hA, hlocks, hZ⟩ := id CX
  unfold f_D_hasRoom at hF
  refine lv_aload_n hx hb kd_D_hasRoom_0 rfl (lv_at hl 0 rfl) ?_
  refine va_get (D := (dC, dI)) (ci := 0) (v := .ref (a 2)) (C := "FileTree$Directories") (T := ft_D) (N := 2) hx hb hts fi_D hown hK hP 1 rfl rfl 0 (by decide) (hts _ q_50) (fun _ h9 => h9) rfl kd_D_hasRoom_1 ?_
  refine lv_iload_n hx hb kd_D_hasRoom_4 rfl (lv_at hl 1 rfl) ?_
  obtain ⟨r1, e_r1, hF⟩ := fb_ob hF
  refine fb_callV (As := [.int x1]) (rest := []) ⟨hx, hb, hml, hown, hts⟩ zX_mv hZ hK hP hD hS hA (c_I_kindOf l dC dI dA a z x1 st r1 e_r1) (cwV 1 hts (gd_V q_137 ko_I_kindOf) rfl rfl rfl kh_I_kindOf ⟨Nat.le_of_ble_eq_true rfl, Nat.le_of_ble_eq_true rfl⟩) 2 2 rfl rfl rfl rfl hl.1 rfl (Nat.le_of_ble_eq_true rfl) kd_D_hasRoom_5 ⟨Nat.zero_le _, Nat.zero_le _⟩ (fun H locs hP hD hS => ?_)
  refine W.eq (g2 := F0 m 8 ls [.int r1.1]) rfl ?_
  refine lv_iconst (v := 1) hx hb kd_D_hasRoom_8 (by decide) ?_
  refine lv_icmp_ne (tgt := 23) hx hb kd_D_hasRoom_9 (by decide) (fun c2 => ?_) (fun c2 => ?_)
  · rw [if_neg c2] at hF
    refine lv_iconst (v := 0) hx hb kd_D_hasRoom_23 (by decide) ?_
    exact fb_rb (o := o) hx hb hr hlocks hK hP hD hS hF kd_D_hasRoom_24
  · rw [if_pos c2] at hF
    refine lv_aload_n hx hb kd_D_hasRoom_12 rfl (lv_at hl 0 rfl) ?_
    refine va_get (D := (dC, dI)) (ci := 0) (v := .ref (a 2)) (C := "FileTree$Directories") (T := ft_D) (N := 2) hx hb hts fi_D hown hK hP 1 rfl rfl 0 (by decide) (hts _ q_50) (fun _ h9 => h9) rfl kd_D_hasRoom_13 ?_
    refine lv_iload_n hx hb kd_D_hasRoom_16 rfl (lv_at hl 1 rfl) ?_
    obtain ⟨r3, e_r3, hF⟩ := fb_ob hF
    refine fb_callV (As := [.int x1]) (rest := []) ⟨hx, hb, hml, hown, hts⟩ zX_mv hZ hK hP hD hS hA (c_I_linksOf l dC dI dA a z x1 r1.2 r3 e_r3) (cwV 1 hts (gd_V q_297 ko_I_linksOf) rfl rfl rfl kh_I_linksOf ⟨Nat.le_of_ble_eq_true rfl, Nat.le_of_ble_eq_true rfl⟩) 2 2 rfl rfl rfl rfl hl.1 rfl (Nat.le_of_ble_eq_true rfl) kd_D_hasRoom_17 ⟨Nat.zero_le _, Nat.zero_le _⟩ (fun H locs hP hD hS => ?_)
    refine W.eq (g2 := F0 m 20 ls [.int r3.1]) rfl ?_
    refine lv_if_ne (tgt := 25) hx hb kd_D_hasRoom_20 (by decide) (fun c4 => ?_) (fun c4 => ?_)
    · rw [if_neg c4] at hF
      refine lv_aload_n hx hb kd_D_hasRoom_25 rfl (lv_at hl 0 rfl) ?_
      refine lv_iload_n hx hb kd_D_hasRoom_26 rfl (lv_at hl 1 rfl) ?_
      obtain ⟨r5, e_r5, hF⟩ := fb_ob hF
      refine fb_callV (As := [.int x1]) (rest := []) ⟨hx, hb, hml, hown, hts⟩ zX_mv hZ hK hP hD hS hA (c_D_sizeOf l dC dI dA a z x1 r3.2 r5 e_r5) (cwV 1 hts (gd_V q_133 ko_D_sizeOf) rfl rfl rfl kh_D_sizeOf ⟨Nat.le_of_ble_eq_true rfl, Nat.le_of_ble_eq_true rfl⟩) 0 1 rfl rfl rfl rfl hl.1 rfl (Nat.le_of_ble_eq_true rfl) kd_D_hasRoom_27 ⟨Nat.zero_le _, Nat.zero_le _⟩ (fun H locs hP hD hS => ?_)
      refine W.eq (g2 := F0 m 30 ls [.int r5.1]) rfl ?_
      refine lv_istore_n (lv' := [(3, .int r5.1), (0, .ref (a 1)), (1, .int x1), (2, .int x2)]) hx hb kd_D_hasRoom_30 rfl hl (by decide) rfl (fun ls hl => ?_)
      refine lv_iload_n hx hb kd_D_hasRoom_31 rfl (lv_at hl 3 rfl) ?_
      refine lv_istore (lv' := [(4, .int x2), (3, .int r5.1), (0, .ref (a 1)), (1, .int x1), (2, .int x2)]) hx hb kd_D_hasRoom_32 hl (by decide) rfl (fun ls hl => ?_)
      refine lv_aload_n hx hb kd_D_hasRoom_34 rfl (lv_at hl 2 rfl) ?_
      refine lv_iload_n hx hb kd_D_hasRoom_35 rfl (lv_at hl 3 rfl) ?_
      obtain ⟨r6, e_r6, hF⟩ := fb_ob hF
      refine fb_callV (As := [.int x1]) (rest := []) ⟨hx, hb, hml, hown, hts⟩ zX_mv hZ hK hP hD hS hA (c_D_freeEntry l dC dI dA a z x1 r5.2 r6 e_r6) (cwV 1 hts (gd_V q_129 ko_D_freeEntry) rfl rfl rfl kh_D_freeEntry ⟨Nat.le_of_ble_eq_true rfl, Nat.le_of_ble_eq_true rfl⟩) 0 1 rfl rfl rfl rfl hl.1 rfl (Nat.le_of_ble_eq_true rfl) kd_D_hasRoom_36 ⟨Nat.zero_le _, Nat.zero_le _⟩ (fun H locs hP hD hS => ?_)
      refine W.eq (g2 := F0 m 39 ls [.int r6.1]) rfl ?_
      refine lv_iconst (v := (-1)) hx hb kd_D_hasRoom_39 (by decide) ?_
      refine lv_icmp_ne (tgt := 76) hx hb kd_D_hasRoom_40 (by decide) (fun c7 => ?_) (fun c7 => ?_)
      · rw [if_neg c7] at hF
        exact w_D_hasRoom_76 CX o x2 r6.2 hF H locs hP hD hS ls (lv_sub hl [2, 0] rfl)
      · rw [if_pos c7] at hF
        refine lv_iload_n hx hb kd_D_hasRoom_43 rfl (lv_at hl 1 rfl) ?_
        refine lv_ldc (v := 274416) hx hb hown (hts _ q_298) kd_D_hasRoom_44 ?_
        refine lv_icmp_le (tgt := 51) hx hb kd_D_hasRoom_46 (by decide) (fun c8 => ?_) (fun c8 => ?_)
        · rw [if_pos c8] at hF
          refine lv_iload_n hx hb kd_D_hasRoom_51 rfl (lv_at hl 1 rfl) ?_
          refine lv_sipush (v := 1024) hx hb kd_D_hasRoom_52 (by decide) ?_
          refine lv_irem hx hb kd_D_hasRoom_55 (by decide) ?_
          refine lv_if_ne (tgt := 76) hx hb kd_D_hasRoom_56 (by decide) (fun c9 => ?_) (fun c9 => ?_)
          · rw [if_neg c9] at hF
            exact w_D_hasRoom_76 CX o x2 r6.2 hF H locs hP hD hS ls (lv_sub hl [2, 0] rfl)
          · rw [if_pos c9] at hF
            refine lv_iload hx hb kd_D_hasRoom_59 (lv_at hl 0 rfl) ?_
            refine lv_aload_n hx hb kd_D_hasRoom_61 rfl (lv_at hl 2 rfl) ?_
            refine va_get (D := (dC, dI)) (ci := 0) (v := .ref (a 2)) (C := "FileTree$Directories") (T := ft_D) (N := 2) hx hb hts fi_D hown hK hP 1 rfl rfl 0 (by decide) (hts _ q_50) (fun _ h9 => h9) rfl kd_D_hasRoom_62 ?_
            refine lv_iload_n hx hb kd_D_hasRoom_65 rfl (lv_at hl 1 rfl) ?_
            refine lv_sipush (v := 1024) hx hb kd_D_hasRoom_66 (by decide) ?_
            refine lv_idiv hx hb kd_D_hasRoom_69 (by decide) ?_
            obtain ⟨r10, e_r10, hF⟩ := fb_ob hF
            refine fb_callV (As := [.int (r5.1 / (1024 : Int32))]) (rest := [.int x2]) ⟨hx, hb, hml, hown, hts⟩ zX_mv hZ hK hP hD hS hA (c_I_blocksToAdd l dC dI dA a z (r5.1 / (1024 : Int32)) r6.2 r10 e_r10) (cwV 1 hts (gd_V q_299 ko_I_blocksToAdd) rfl rfl rfl kh_I_blocksToAdd ⟨Nat.le_of_ble_eq_true rfl, Nat.le_of_ble_eq_true rfl⟩) 2 2 rfl rfl rfl rfl hl.1 rfl (Nat.le_of_ble_eq_true rfl) kd_D_hasRoom_70 ⟨Nat.zero_le _, Nat.zero_le _⟩ (fun H locs hP hD hS => ?_)
            refine W.eq (g2 := F0 m 73 ls [.int r10.1, .int x2]) rfl ?_
            refine lv_iadd hx hb kd_D_hasRoom_73 ?_
            refine lv_istore (lv' := [(4, .int (x2 + r10.1)), (3, .int r5.1), (0, .ref (a 1)), (1, .int x1), (2, .int x2)]) hx hb kd_D_hasRoom_74 hl (by decide) rfl (fun ls hl => ?_)
            exact w_D_hasRoom_76 CX o (x2 + r10.1) r10.2 hF H locs hP hD hS ls (lv_sub hl [2, 0] rfl)
        · rw [if_neg c8] at hF
          refine lv_iconst (v := 0) hx hb kd_D_hasRoom_49 (by decide) ?_
          exact fb_rb (o := o) hx hb hr hlocks hK hP hD hS hF kd_D_hasRoom_50
    · rw [if_pos c4] at hF
      refine lv_iconst (v := 0) hx hb kd_D_hasRoom_23 (by decide) ?_
      exact fb_rb (o := o) hx hb hr hlocks hK hP hD hS hF kd_D_hasRoom_24
theorem c_D_hasRoom (l : Launch) (dC : Nat → ClassId) (dI : Nat → Nat → Nat) (dA : Nat → ClassId) (a : Nat → Nat) (z : Nat → Nat) (x1 : Int32) (x2 : Int32) (st : fb_S) (o : Int32 × fb_S) (h : f_D_hasRoom x1 x2 st = some o) : fb_M l ky_D_hasRoom kw_D_hasRoom rm_D_hasRoom (dC, dI) vcl (tX dA) (wX dA a) (zX z) [.ref (a 1), .int x1, .int x2] (some (.int o.1)) st o.2 := fb_enter (by decide) rfl (Nat.le_of_ble_eq_true rfl) (fun p e s m below meth c A CX hP hD hS ls hl => w_D_hasRoom_0 CX o x1 x2 st h s.heap [] hP hD hS ls hl)
abbrev rm_D_addEntry_last : Room := { frames := 4, cells := 0, slots := 0, locals := 94 }
def b_D_addEntry_last_87 (k87 : Int32 → Int32 → fb_S → Option (Int32 × fb_S)) (x4 : Int32) (x5 : Int32) (st : fb_S) : Option (Int32 × fb_S) := (if (14 : Int32) ≤ x5 then some (0, st) else (f_D_nameByte_last x5 st).bind fun r2 => (f_K_setPart ((x4 + (2 : Int32)) + x5) (255 : Int32) r2.1 r2.2).bind fun r3 => k87 x4 (x5 + (1 : Int32)) r3.2)
set_option maxHeartbeats 4000000 in
set_option maxRecDepth 100000 in
theorem w_D_addEntry_last_87 {p : Program} {l : Launch} {e : Env} {s : State} {m : MethodId} {args : Array Value} {below : List Frame} {meth : Method} {c : Code} {A : Nat → Prop} {dC : Nat → ClassId} {dI : Nat → Nat → Nat} {dA : Nat → ClassId} {a : Nat → Nat} {z : Nat → Nat} (CX : fb_C p s m args meth c kc_D_addEntry none 6 "FileTree$Directories" (dC, dI) vcl (tX dA) A (zX z)) (o : Int32 × fb_S) (k87 : Int32 → Int32 → fb_S → Option (Int32 × fb_S)) (hk87 : ∀ (x4 : Int32) (x5 : Int32) (st : fb_S), k87 x4 x5 st = some o → fb_G p l e (headSpec kw_D_addEntry rm_D_addEntry_last).room s m args below meth c (dC, dI) vcl (tX dA) (wX dA a) A none o.2 87 6 [(0, .ref (a 1)), (2, .ref (a 9)), (4, .int x4), (5, .int x5)] [] st) (x4 : Int32) (x5 : Int32) (st : fb_S) (hF : b_D_addEntry_last_87 k87 x4 x5 st = some o) : fb_G p l e (headSpec kw_D_addEntry rm_D_addEntry_last).room s m args below meth c (dC, dI) vcl (tX dA) (wX dA a) A none o.2 87 6 [(0, .ref (a 1)), (2, .ref (a 9)), (4, .int x4), (5, .int x5)] [] st := by
  intro H locs hP hD hS ls hl
  obtain ⟨hx, hb, hr, hml, hown, hts, hK, hA, hlocks, hZ⟩ := id CX
  unfold b_D_addEntry_last_87 at hF
  refine lv_iload hx hb kd_D_addEntry_87 (lv_at hl 3 rfl) ?_
  refine lv_bipush (v := 14) hx hb kd_D_addEntry_89 (by decide) ?_
  refine lv_icmp_ge (tgt := 124) hx hb kd_D_addEntry_91 (by decide) (fun c1 => ?_) (fun c1 => ?_)
  · rw [if_pos c1] at hF
    exact fb_rv (o := o) hx hb hr hlocks hK hP hD hS hF kd_D_addEntry_124
  · rw [if_neg c1] at hF
    refine lv_aload_n hx hb kd_D_addEntry_94 rfl (lv_at hl 0 rfl) ?_
    refine va_get (D := (dC, dI)) (ci := 0) (v := .ref (a 3)) (C := "FileTree$Directories") (T := ft_D) (N := 2) hx hb hts fi_D hown hK hP 1 rfl rfl 1 (by decide) (hts _ q_52) (fun _ h9 => h9) rfl kd_D_addEntry_95 ?_
    refine lv_iload hx hb kd_D_addEntry_98 (lv_at hl 2 rfl) ?_
    refine lv_iconst (v := 2) hx hb kd_D_addEntry_100 (by decide) ?_
    refine lv_iadd hx hb kd_D_addEntry_101 ?_
    refine lv_iload hx hb kd_D_addEntry_102 (lv_at hl 3 rfl) ?_
    refine lv_iadd hx hb kd_D_addEntry_104 ?_
    refine lv_sipush (v := 255) hx hb kd_D_addEntry_105 (by decide) ?_
    refine lv_aload_n hx hb kd_D_addEntry_108 rfl (lv_at hl 0 rfl) ?_
    refine lv_aload_n hx hb kd_D_addEntry_109 rfl (lv_at hl 1 rfl) ?_
    refine lv_iload hx hb kd_D_addEntry_110 (lv_at hl 3 rfl) ?_
    obtain ⟨r2, e_r2, hF⟩ := fb_ob hF
    refine fb_callV (As := [.ref (a 9), .int x5]) (rest := [.int (255 : Int32), .int ((x4 + (2 : Int32)) + x5), .ref (a 3)]) ⟨hx, hb, hml, hown, hts⟩ zX_mv hZ hK hP hD hS hA (c_D_nameByte_last l dC dI dA a z x5 st r2 e_r2) (cwV 2 hts (gd_V q_193 ko_D_nameByte) rfl rfl rfl kh_D_nameByte ⟨Nat.le_of_ble_eq_true rfl, Nat.le_of_ble_eq_true rfl⟩) 0 1 rfl rfl rfl rfl hl.1 rfl (Nat.le_of_ble_eq_true rfl) kd_D_addEntry_112 ⟨Nat.zero_le _, Nat.zero_le _⟩ (fun H locs hP hD hS => ?_)
    refine W.eq (g2 := F0 m 115 ls [.int r2.1, .int (255 : Int32), .int ((x4 + (2 : Int32)) + x5), .ref (a 3)]) rfl ?_
    obtain ⟨r3, e_r3, hF⟩ := fb_ob hF
    refine fb_callV (As := [.int ((x4 + (2 : Int32)) + x5), .int (255 : Int32), .int r2.1]) (rest := []) ⟨hx, hb, hml, hown, hts⟩ zX_mv hZ hK hP hD hS hA (c_K_setPart l dC dI dA a z ((x4 + (2 : Int32)) + x5) (255 : Int32) r2.1 r2.2 r3 e_r3) (cwV 3 hts (gd_V q_192 ko_K_setPart) rfl rfl rfl kh_K_setPart ⟨Nat.le_of_ble_eq_true rfl, Nat.le_of_ble_eq_true rfl⟩) 1 3 rfl rfl rfl rfl hl.1 rfl (Nat.le_of_ble_eq_true rfl) kd_D_addEntry_115 ⟨Nat.zero_le _, Nat.zero_le _⟩ (fun H locs hP hD hS => ?_)
    refine W.eq (g2 := F0 m 118 ls []) rfl ?_
    refine lv_iinc (v := x5 + (1 : Int32)) (lv' := [(5, .int (x5 + (1 : Int32))), (0, .ref (a 1)), (2, .ref (a 9)), (4, .int x4)]) hx hb kd_D_addEntry_118 hl (k := 3) rfl rfl (by decide) rfl (fun ls hl => ?_)
    refine lv_goto (tgt := 87) hx hb kd_D_addEntry_121 (by decide) ?_
    exact hk87 x4 (x5 + (1 : Int32)) r3.2 hF H locs hP hD hS ls (lv_sub hl [1, 2, 3, 0] rfl)
def l_D_addEntry_last_87 : Nat → Int32 → Int32 → fb_S → Option (Int32 × fb_S)
  | 0 => fun _ _ _ => none
  | n + 1 => b_D_addEntry_last_87 (l_D_addEntry_last_87 n)
theorem v_D_addEntry_last_87 {p : Program} {l : Launch} {e : Env} {s : State} {m : MethodId} {args : Array Value} {below : List Frame} {meth : Method} {c : Code} {A : Nat → Prop} {dC : Nat → ClassId} {dI : Nat → Nat → Nat} {dA : Nat → ClassId} {a : Nat → Nat} {z : Nat → Nat} (CX : fb_C p s m args meth c kc_D_addEntry none 6 "FileTree$Directories" (dC, dI) vcl (tX dA) A (zX z)) (o : Int32 × fb_S) (n : Nat) : ∀ (x4 : Int32) (x5 : Int32) (st : fb_S), l_D_addEntry_last_87 n x4 x5 st = some o → fb_G p l e (headSpec kw_D_addEntry rm_D_addEntry_last).room s m args below meth c (dC, dI) vcl (tX dA) (wX dA a) A none o.2 87 6 [(0, .ref (a 1)), (2, .ref (a 9)), (4, .int x4), (5, .int x5)] [] st := by
  induction n with
  | zero => intro x4 x5 st hF; cases hF
  | succ n ih => intro x4 x5 st hF; exact w_D_addEntry_last_87 CX o (l_D_addEntry_last_87 n) ih x4 x5 st hF
def b_D_addEntry_last_72 (x3 : Int32) (x4 : Int32) (st : fb_S) : Option (Int32 × fb_S) := (f_K_setPart x4 (65535 : Int32) x3 st).bind fun r1 => l_D_addEntry_last_87 fb_n x4 (0 : Int32) r1.2
set_option maxHeartbeats 4000000 in
set_option maxRecDepth 100000 in
theorem w_D_addEntry_last_72 {p : Program} {l : Launch} {e : Env} {s : State} {m : MethodId} {args : Array Value} {below : List Frame} {meth : Method} {c : Code} {A : Nat → Prop} {dC : Nat → ClassId} {dI : Nat → Nat → Nat} {dA : Nat → ClassId} {a : Nat → Nat} {z : Nat → Nat} (CX : fb_C p s m args meth c kc_D_addEntry none 6 "FileTree$Directories" (dC, dI) vcl (tX dA) A (zX z)) (o : Int32 × fb_S) (x3 : Int32) (x4 : Int32) (st : fb_S) (hF : b_D_addEntry_last_72 x3 x4 st = some o) : fb_G p l e (headSpec kw_D_addEntry rm_D_addEntry_last).room s m args below meth c (dC, dI) vcl (tX dA) (wX dA a) A none o.2 72 6 [(0, .ref (a 1)), (2, .ref (a 9)), (3, .int x3), (4, .int x4)] [] st := by
  intro H locs hP hD hS ls hl
  obtain ⟨hx, hb, hr, hml, hown, hts, hK, hA, hlocks, hZ⟩ := id CX
  unfold b_D_addEntry_last_72 at hF
  refine lv_aload_n hx hb kd_D_addEntry_72 rfl (lv_at hl 0 rfl) ?_
  refine va_get (D := (dC, dI)) (ci := 0) (v := .ref (a 3)) (C := "FileTree$Directories") (T := ft_D) (N := 2) hx hb hts fi_D hown hK hP 1 rfl rfl 1 (by decide) (hts _ q_52) (fun _ h9 => h9) rfl kd_D_addEntry_73 ?_
  refine lv_iload hx hb kd_D_addEntry_76 (lv_at hl 3 rfl) ?_
  refine lv_ldc (v := 65535) hx hb hown (hts _ q_158) kd_D_addEntry_78 ?_
  refine lv_iload_n hx hb kd_D_addEntry_80 rfl (lv_at hl 2 rfl) ?_
  obtain ⟨r1, e_r1, hF⟩ := fb_ob hF
  refine fb_callV (As := [.int x4, .int (65535 : Int32), .int x3]) (rest := []) ⟨hx, hb, hml, hown, hts⟩ zX_mv hZ hK hP hD hS hA (c_K_setPart l dC dI dA a z x4 (65535 : Int32) x3 st r1 e_r1) (cwV 3 hts (gd_V q_192 ko_K_setPart) rfl rfl rfl kh_K_setPart ⟨Nat.le_of_ble_eq_true rfl, Nat.le_of_ble_eq_true rfl⟩) 1 3 rfl rfl rfl rfl hl.1 rfl (Nat.le_of_ble_eq_true rfl) kd_D_addEntry_81 ⟨Nat.zero_le _, Nat.zero_le _⟩ (fun H locs hP hD hS => ?_)
  refine W.eq (g2 := F0 m 84 ls []) rfl ?_
  refine lv_iconst (v := 0) hx hb kd_D_addEntry_84 (by decide) ?_
  refine lv_istore (lv' := [(5, .int (0 : Int32)), (0, .ref (a 1)), (2, .ref (a 9)), (3, .int x3), (4, .int x4)]) hx hb kd_D_addEntry_85 hl (by decide) rfl (fun ls hl => ?_)
  exact v_D_addEntry_last_87 CX o fb_n x4 (0 : Int32) r1.2 hF H locs hP hD hS ls (lv_sub hl [1, 2, 4, 0] rfl)
def b_D_addEntry_last_47 (x1 : Int32) (x3 : Int32) (x5 : Int32) (st : fb_S) : Option (Int32 × fb_S) := (f_I_placeOfByte x1 x5 st).bind fun r1 => (f_I_setSize x1 (x5 + (16 : Int32)) r1.2).bind fun r2 => b_D_addEntry_last_72 x3 r1.1 r2.2
set_option maxHeartbeats 4000000 in
set_option maxRecDepth 100000 in
theorem w_D_addEntry_last_47 {p : Program} {l : Launch} {e : Env} {s : State} {m : MethodId} {args : Array Value} {below : List Frame} {meth : Method} {c : Code} {A : Nat → Prop} {dC : Nat → ClassId} {dI : Nat → Nat → Nat} {dA : Nat → ClassId} {a : Nat → Nat} {z : Nat → Nat} (CX : fb_C p s m args meth c kc_D_addEntry none 6 "FileTree$Directories" (dC, dI) vcl (tX dA) A (zX z)) (o : Int32 × fb_S) (x1 : Int32) (x3 : Int32) (x5 : Int32) (st : fb_S) (hF : b_D_addEntry_last_47 x1 x3 x5 st = some o) : fb_G p l e (headSpec kw_D_addEntry rm_D_addEntry_last).room s m args below meth c (dC, dI) vcl (tX dA) (wX dA a) A none o.2 47 6 [(0, .ref (a 1)), (1, .int x1), (2, .ref (a 9)), (3, .int x3), (5, .int x5)] [] st := by
  intro H locs hP hD hS ls hl
  obtain ⟨hx, hb, hr, hml, hown, hts, hK, hA, hlocks, hZ⟩ := id CX
  unfold b_D_addEntry_last_47 at hF
  refine lv_aload_n hx hb kd_D_addEntry_47 rfl (lv_at hl 0 rfl) ?_
  refine va_get (D := (dC, dI)) (ci := 0) (v := .ref (a 2)) (C := "FileTree$Directories") (T := ft_D) (N := 2) hx hb hts fi_D hown hK hP 1 rfl rfl 0 (by decide) (hts _ q_50) (fun _ h9 => h9) rfl kd_D_addEntry_48 ?_
  refine lv_iload_n hx hb kd_D_addEntry_51 rfl (lv_at hl 1 rfl) ?_
  refine lv_iload hx hb kd_D_addEntry_52 (lv_at hl 4 rfl) ?_
  obtain ⟨r1, e_r1, hF⟩ := fb_ob hF
  refine fb_callV (As := [.int x1, .int x5]) (rest := []) ⟨hx, hb, hml, hown, hts⟩ zX_mv hZ hK hP hD hS hA (c_I_placeOfByte l dC dI dA a z x1 x5 st r1 e_r1) (cwV 2 hts (gd_V q_150 ko_I_placeOfByte) rfl rfl rfl kh_I_placeOfByte ⟨Nat.le_of_ble_eq_true rfl, Nat.le_of_ble_eq_true rfl⟩) 2 2 rfl rfl rfl rfl hl.1 rfl (Nat.le_of_ble_eq_true rfl) kd_D_addEntry_54 ⟨Nat.zero_le _, Nat.zero_le _⟩ (fun H locs hP hD hS => ?_)
  refine W.eq (g2 := F0 m 57 ls [.int r1.1]) rfl ?_
  refine lv_istore (lv' := [(4, .int r1.1), (0, .ref (a 1)), (1, .int x1), (2, .ref (a 9)), (3, .int x3), (5, .int x5)]) hx hb kd_D_addEntry_57 hl (by decide) rfl (fun ls hl => ?_)
  refine lv_aload_n hx hb kd_D_addEntry_59 rfl (lv_at hl 1 rfl) ?_
  refine va_get (D := (dC, dI)) (ci := 0) (v := .ref (a 2)) (C := "FileTree$Directories") (T := ft_D) (N := 2) hx hb hts fi_D hown hK hP 1 rfl rfl 0 (by decide) (hts _ q_50) (fun _ h9 => h9) rfl kd_D_addEntry_60 ?_
  refine lv_iload_n hx hb kd_D_addEntry_63 rfl (lv_at hl 2 rfl) ?_
  refine lv_iload hx hb kd_D_addEntry_64 (lv_at hl 5 rfl) ?_
  refine lv_bipush (v := 16) hx hb kd_D_addEntry_66 (by decide) ?_
  refine lv_iadd hx hb kd_D_addEntry_68 ?_
  obtain ⟨r2, e_r2, hF⟩ := fb_ob hF
  refine fb_callV (As := [.int x1, .int (x5 + (16 : Int32))]) (rest := []) ⟨hx, hb, hml, hown, hts⟩ zX_mv hZ hK hP hD hS hA (c_I_setSize l dC dI dA a z x1 (x5 + (16 : Int32)) r1.2 r2 e_r2) (cwV 2 hts (gd_V q_188 ko_I_setSize) rfl rfl rfl kh_I_setSize ⟨Nat.le_of_ble_eq_true rfl, Nat.le_of_ble_eq_true rfl⟩) 2 2 rfl rfl rfl rfl hl.1 rfl (Nat.le_of_ble_eq_true rfl) kd_D_addEntry_69 ⟨Nat.zero_le _, Nat.zero_le _⟩ (fun H locs hP hD hS => ?_)
  refine W.eq (g2 := F0 m 72 ls []) rfl ?_
  exact w_D_addEntry_last_72 CX o x3 r1.1 r2.2 hF H locs hP hD hS ls (lv_sub hl [1, 3, 4, 0] rfl)
def f_D_addEntry_last (x1 : Int32) (x3 : Int32) (st : fb_S) : Option (Int32 × fb_S) := (f_D_freeEntry x1 st).bind fun r1 => (if r1.1 = (-1 : Int32) then (f_D_sizeOf x1 r1.2).bind fun r3 => (if (r3.1 - r3.1 / (1024 : Int32) * (1024 : Int32)) = (0 : Int32) then (f_I_addBlock x1 (r3.1 / (1024 : Int32)) r3.2).bind fun r5 => (if r5.1 = (0 : Int32) then some (0, r5.2) else b_D_addEntry_last_47 x1 x3 r3.1 r5.2) else b_D_addEntry_last_47 x1 x3 r3.1 r3.2) else b_D_addEntry_last_72 x3 r1.1 r1.2)
set_option maxHeartbeats 4000000 in
set_option maxRecDepth 100000 in
theorem w_D_addEntry_last_0 {p : Program} {l : Launch} {e : Env} {s : State} {m : MethodId} {args : Array Value} {below : List Frame} {meth : Method} {c : Code} {A : Nat → Prop} {dC : Nat → ClassId} {dI : Nat → Nat → Nat} {dA : Nat → ClassId} {a : Nat → Nat} {z : Nat → Nat} (CX : fb_C p s m args meth c kc_D_addEntry none 6 "FileTree$Directories" (dC, dI) vcl (tX dA) A (zX z)) (o : Int32 × fb_S) (x1 : Int32) (x3 : Int32) (st : fb_S) (hF : f_D_addEntry_last x1 x3 st = some o) : fb_G p l e (headSpec kw_D_addEntry rm_D_addEntry_last).room s m args below meth c (dC, dI) vcl (tX dA) (wX dA a) A none o.2 0 6 [(0, .ref (a 1)), (1, .int x1), (2, .ref (a 9)), (3, .int x3)] [] st := by
  intro H locs hP hD hS ls hl
  obtain ⟨hx, hb, hr, hml, hown, hts, hK, hA, hlocks, hZ⟩ := id CX
  unfold f_D_addEntry_last at hF
  refine lv_aload_n hx hb kd_D_addEntry_0 rfl (lv_at hl 0 rfl) ?_
  refine lv_iload_n hx hb kd_D_addEntry_1 rfl (lv_at hl 1 rfl) ?_
  obtain ⟨r1, e_r1, hF⟩ := fb_ob hF
  refine fb_callV (As := [.int x1]) (rest := []) ⟨hx, hb, hml, hown, hts⟩ zX_mv hZ hK hP hD hS hA (c_D_freeEntry l dC dI dA a z x1 st r1 e_r1) (cwV 1 hts (gd_V q_129 ko_D_freeEntry) rfl rfl rfl kh_D_freeEntry ⟨Nat.le_of_ble_eq_true rfl, Nat.le_of_ble_eq_true rfl⟩) 0 1 rfl rfl rfl rfl hl.1 rfl (Nat.le_of_ble_eq_true rfl) kd_D_addEntry_2 ⟨Nat.zero_le _, Nat.zero_le _⟩ (fun H locs hP hD hS => ?_)
  refine W.eq (g2 := F0 m 5 ls [.int r1.1]) rfl ?_
  refine lv_istore (lv' := [(4, .int r1.1), (0, .ref (a 1)), (1, .int x1), (2, .ref (a 9)), (3, .int x3)]) hx hb kd_D_addEntry_5 hl (by decide) rfl (fun ls hl => ?_)
  refine lv_iload hx hb kd_D_addEntry_7 (lv_at hl 0 rfl) ?_
  refine lv_iconst (v := (-1)) hx hb kd_D_addEntry_9 (by decide) ?_
  refine lv_icmp_ne (tgt := 72) hx hb kd_D_addEntry_10 (by decide) (fun c2 => ?_) (fun c2 => ?_)
  · rw [if_neg c2] at hF
    exact w_D_addEntry_last_72 CX o x3 r1.1 r1.2 hF H locs hP hD hS ls (lv_sub hl [1, 3, 4, 0] rfl)
  · rw [if_pos c2] at hF
    refine lv_aload_n hx hb kd_D_addEntry_13 rfl (lv_at hl 1 rfl) ?_
    refine lv_iload_n hx hb kd_D_addEntry_14 rfl (lv_at hl 2 rfl) ?_
    obtain ⟨r3, e_r3, hF⟩ := fb_ob hF
    refine fb_callV (As := [.int x1]) (rest := []) ⟨hx, hb, hml, hown, hts⟩ zX_mv hZ hK hP hD hS hA (c_D_sizeOf l dC dI dA a z x1 r1.2 r3 e_r3) (cwV 1 hts (gd_V q_133 ko_D_sizeOf) rfl rfl rfl kh_D_sizeOf ⟨Nat.le_of_ble_eq_true rfl, Nat.le_of_ble_eq_true rfl⟩) 0 1 rfl rfl rfl rfl hl.1 rfl (Nat.le_of_ble_eq_true rfl) kd_D_addEntry_15 ⟨Nat.zero_le _, Nat.zero_le _⟩ (fun H locs hP hD hS => ?_)
    refine W.eq (g2 := F0 m 18 ls [.int r3.1]) rfl ?_
    refine lv_istore (lv' := [(5, .int r3.1), (4, .int r1.1), (0, .ref (a 1)), (1, .int x1), (2, .ref (a 9)), (3, .int x3)]) hx hb kd_D_addEntry_18 hl (by decide) rfl (fun ls hl => ?_)
    refine lv_iload hx hb kd_D_addEntry_20 (lv_at hl 0 rfl) ?_
    refine lv_sipush (v := 1024) hx hb kd_D_addEntry_22 (by decide) ?_
    refine lv_irem hx hb kd_D_addEntry_25 (by decide) ?_
    refine lv_if_ne (tgt := 47) hx hb kd_D_addEntry_26 (by decide) (fun c4 => ?_) (fun c4 => ?_)
    · rw [if_neg c4] at hF
      exact w_D_addEntry_last_47 CX o x1 x3 r3.1 r3.2 hF H locs hP hD hS ls (lv_sub hl [2, 3, 4, 5, 0] rfl)
    · rw [if_pos c4] at hF
      refine lv_aload_n hx hb kd_D_addEntry_29 rfl (lv_at hl 2 rfl) ?_
      refine va_get (D := (dC, dI)) (ci := 0) (v := .ref (a 2)) (C := "FileTree$Directories") (T := ft_D) (N := 2) hx hb hts fi_D hown hK hP 1 rfl rfl 0 (by decide) (hts _ q_50) (fun _ h9 => h9) rfl kd_D_addEntry_30 ?_
      refine lv_iload_n hx hb kd_D_addEntry_33 rfl (lv_at hl 3 rfl) ?_
      refine lv_iload hx hb kd_D_addEntry_34 (lv_at hl 0 rfl) ?_
      refine lv_sipush (v := 1024) hx hb kd_D_addEntry_36 (by decide) ?_
      refine lv_idiv hx hb kd_D_addEntry_39 (by decide) ?_
      obtain ⟨r5, e_r5, hF⟩ := fb_ob hF
      refine fb_callV (As := [.int x1, .int (r3.1 / (1024 : Int32))]) (rest := []) ⟨hx, hb, hml, hown, hts⟩ zX_mv hZ hK hP hD hS hA (c_I_addBlock l dC dI dA a z x1 (r3.1 / (1024 : Int32)) r3.2 r5 e_r5) (cwV 2 hts (gd_V q_160 ko_I_addBlock) rfl rfl rfl kh_I_addBlock ⟨Nat.le_of_ble_eq_true rfl, Nat.le_of_ble_eq_true rfl⟩) 2 2 rfl rfl rfl rfl hl.1 rfl (Nat.le_of_ble_eq_true rfl) kd_D_addEntry_40 ⟨Nat.zero_le _, Nat.zero_le _⟩ (fun H locs hP hD hS => ?_)
      refine W.eq (g2 := F0 m 43 ls [.int r5.1]) rfl ?_
      refine lv_if_ne (tgt := 47) hx hb kd_D_addEntry_43 (by decide) (fun c6 => ?_) (fun c6 => ?_)
      · rw [if_neg c6] at hF
        exact w_D_addEntry_last_47 CX o x1 x3 r3.1 r5.2 hF H locs hP hD hS ls (lv_sub hl [2, 3, 4, 5, 0] rfl)
      · rw [if_pos c6] at hF
        exact fb_rv (o := o) hx hb hr hlocks hK hP hD hS hF kd_D_addEntry_46
theorem c_D_addEntry_last (l : Launch) (dC : Nat → ClassId) (dI : Nat → Nat → Nat) (dA : Nat → ClassId) (a : Nat → Nat) (z : Nat → Nat) (x1 : Int32) (x3 : Int32) (st : fb_S) (o : Int32 × fb_S) (h : f_D_addEntry_last x1 x3 st = some o) : fb_M l ky_D_addEntry kw_D_addEntry rm_D_addEntry_last (dC, dI) vcl (tX dA) (wX dA a) (zX z) [.ref (a 1), .int x1, .ref (a 9), .int x3] none st o.2 := fb_enter (by decide) rfl (Nat.le_of_ble_eq_true rfl) (fun p e s m below meth c A CX hP hD hS ls hl => w_D_addEntry_last_0 CX o x1 x3 st h s.heap [] hP hD hS ls hl)
abbrev rm_T_create : Room := { frames := 6, cells := 0, slots := 0, locals := 141 }
def b_T_create_182 (x5 : Int32) (x7 : Int32) (st : fb_S) : Option (Int32 × fb_S) := (f_D_addEntry_last x5 x7 st).bind fun r1 => some (x7, r1.2)
set_option maxHeartbeats 4000000 in
set_option maxRecDepth 100000 in
theorem w_T_create_182 {p : Program} {l : Launch} {e : Env} {s : State} {m : MethodId} {args : Array Value} {below : List Frame} {meth : Method} {c : Code} {A : Nat → Prop} {dC : Nat → ClassId} {dI : Nat → Nat → Nat} {dA : Nat → ClassId} {a : Nat → Nat} {z : Nat → Nat} (CX : fb_C p s m args meth c kc_T_create (some .int) 9 "FileTree" (dC, dI) vcl (tX dA) A (zX z)) (o : Int32 × fb_S) (x5 : Int32) (x7 : Int32) (st : fb_S) (hF : b_T_create_182 x5 x7 st = some o) : fb_G p l e (headSpec kw_T_create rm_T_create).room s m args below meth c (dC, dI) vcl (tX dA) (wX dA a) A (some (.int o.1)) o.2 182 9 [(0, .ref (a 0)), (5, .int x5), (7, .int x7)] [] st := by
  intro H locs hP hD hS ls hl
  obtain ⟨hx, hb, hr, hml, hown, hts, hK, hA, hlocks, hZ⟩ := id CX
  unfold b_T_create_182 at hF
  refine lv_aload_n hx hb kd_T_create_182 rfl (lv_at hl 0 rfl) ?_
  refine va_get (D := (dC, dI)) (ci := 4) (v := .ref (a 1)) (C := "FileTree") (T := ft_T) (N := 5) hx hb hts fi_T hown hK hP 0 rfl rfl 0 (by decide) (hts _ q_207) (fun _ h9 => h9) rfl kd_T_create_183 ?_
  refine lv_iload hx hb kd_T_create_186 (lv_at hl 1 rfl) ?_
  refine lv_aload_n hx hb kd_T_create_188 rfl (lv_at hl 0 rfl) ?_
  refine va_get (D := (dC, dI)) (ci := 4) (v := .ref (a 4)) (C := "FileTree") (T := ft_T) (N := 5) hx hb hts fi_T hown hK hP 0 rfl rfl 3 (by decide) (hts _ q_210) (fun _ h9 => h9) rfl kd_T_create_189 ?_
  refine va_get (D := (dC, dI)) (ci := 3) (v := .ref (a 9)) (C := "FileTree$Text") (T := ft_X) (N := 4) hx hb hts fi_X hown hK hP 4 rfl rfl 2 (by decide) (hts _ q_68) (fun _ h9 => h9) rfl kd_T_create_192 ?_
  refine lv_iload hx hb kd_T_create_195 (lv_at hl 2 rfl) ?_
  obtain ⟨r1, e_r1, hF⟩ := fb_ob hF
  refine fb_callV (As := [.int x5, .ref (a 9), .int x7]) (rest := []) ⟨hx, hb, hml, hown, hts⟩ zX_mv hZ hK hP hD hS hA (c_D_addEntry_last l dC dI dA a z x5 x7 st r1 e_r1) (cwV 3 hts (gd_V q_301 ko_D_addEntry) rfl rfl rfl kh_D_addEntry ⟨Nat.le_of_ble_eq_true rfl, Nat.le_of_ble_eq_true rfl⟩) 0 1 rfl rfl rfl rfl hl.1 rfl (Nat.le_of_ble_eq_true rfl) kd_T_create_197 ⟨Nat.zero_le _, Nat.zero_le _⟩ (fun H locs hP hD hS => ?_)
  refine W.eq (g2 := F0 m 200 ls []) rfl ?_
  refine lv_iload hx hb kd_T_create_200 (lv_at hl 2 rfl) ?_
  exact fb_ri (o := o) hx hb hr hlocks hK hP hD hS hF kd_T_create_202
def b_T_create_129 (x2 : Int32) (x3 : Int32) (x4 : Int32) (x5 : Int32) (x7 : Int32) (y0 : Int32) (st : fb_S) : Option (Int32 × fb_S) := (if x7 = (-1 : Int32) then some ((-1 : Int32), st) else (f_D_hasRoom x5 y0 st).bind fun r2 => (if r2.1 = (0 : Int32) then some ((-1 : Int32), r2.2) else (f_I_make x7 x2 x3 x4 r2.2).bind fun r4 => (if x2 = (1 : Int32) then (f_D_begin x7 x5 r4.2).bind fun r6 => b_T_create_182 x5 x7 r6.2 else b_T_create_182 x5 x7 r4.2)))
set_option maxHeartbeats 4000000 in
set_option maxRecDepth 100000 in
theorem w_T_create_129 {p : Program} {l : Launch} {e : Env} {s : State} {m : MethodId} {args : Array Value} {below : List Frame} {meth : Method} {c : Code} {A : Nat → Prop} {dC : Nat → ClassId} {dI : Nat → Nat → Nat} {dA : Nat → ClassId} {a : Nat → Nat} {z : Nat → Nat} (CX : fb_C p s m args meth c kc_T_create (some .int) 9 "FileTree" (dC, dI) vcl (tX dA) A (zX z)) (o : Int32 × fb_S) (x2 : Int32) (x3 : Int32) (x4 : Int32) (x5 : Int32) (x7 : Int32) (y0 : Int32) (st : fb_S) (hF : b_T_create_129 x2 x3 x4 x5 x7 y0 st = some o) : fb_G p l e (headSpec kw_T_create rm_T_create).room s m args below meth c (dC, dI) vcl (tX dA) (wX dA a) A (some (.int o.1)) o.2 129 9 [(0, .ref (a 0)), (2, .int x2), (3, .int x3), (4, .int x4), (5, .int x5), (7, .int x7)] [.int y0] st := by
  intro H locs hP hD hS ls hl
  obtain ⟨hx, hb, hr, hml, hown, hts, hK, hA, hlocks, hZ⟩ := id CX
  unfold b_T_create_129 at hF
  refine lv_istore (lv' := [(8, .int y0), (0, .ref (a 0)), (2, .int x2), (3, .int x3), (4, .int x4), (5, .int x5), (7, .int x7)]) hx hb kd_T_create_129 hl (by decide) rfl (fun ls hl => ?_)
  refine lv_iload hx hb kd_T_create_131 (lv_at hl 6 rfl) ?_
  refine lv_iconst (v := (-1)) hx hb kd_T_create_133 (by decide) ?_
  refine lv_icmp_eq (tgt := 151) hx hb kd_T_create_134 (by decide) (fun c1 => ?_) (fun c1 => ?_)
  · rw [if_pos c1] at hF
    refine lv_iconst (v := (-1)) hx hb kd_T_create_151 (by decide) ?_
    exact fb_ri (o := o) hx hb hr hlocks hK hP hD hS hF kd_T_create_152
  · rw [if_neg c1] at hF
    refine lv_aload_n hx hb kd_T_create_137 rfl (lv_at hl 1 rfl) ?_
    refine va_get (D := (dC, dI)) (ci := 4) (v := .ref (a 1)) (C := "FileTree") (T := ft_T) (N := 5) hx hb hts fi_T hown hK hP 0 rfl rfl 0 (by decide) (hts _ q_207) (fun _ h9 => h9) rfl kd_T_create_138 ?_
    refine lv_iload hx hb kd_T_create_141 (lv_at hl 5 rfl) ?_
    refine lv_iload hx hb kd_T_create_143 (lv_at hl 0 rfl) ?_
    obtain ⟨r2, e_r2, hF⟩ := fb_ob hF
    refine fb_callV (As := [.int x5, .int y0]) (rest := []) ⟨hx, hb, hml, hown, hts⟩ zX_mv hZ hK hP hD hS hA (c_D_hasRoom l dC dI dA a z x5 y0 st r2 e_r2) (cwV 2 hts (gd_V q_293 ko_D_hasRoom) rfl rfl rfl kh_D_hasRoom ⟨Nat.le_of_ble_eq_true rfl, Nat.le_of_ble_eq_true rfl⟩) 0 1 rfl rfl rfl rfl hl.1 rfl (Nat.le_of_ble_eq_true rfl) kd_T_create_145 ⟨Nat.zero_le _, Nat.zero_le _⟩ (fun H locs hP hD hS => ?_)
    refine W.eq (g2 := F0 m 148 ls [.int r2.1]) rfl ?_
    refine lv_if_ne (tgt := 153) hx hb kd_T_create_148 (by decide) (fun c3 => ?_) (fun c3 => ?_)
    · rw [if_neg c3] at hF
      refine lv_aload_n hx hb kd_T_create_153 rfl (lv_at hl 1 rfl) ?_
      refine va_get (D := (dC, dI)) (ci := 4) (v := .ref (a 2)) (C := "FileTree") (T := ft_T) (N := 5) hx hb hts fi_T hown hK hP 0 rfl rfl 1 (by decide) (hts _ q_208) (fun _ h9 => h9) rfl kd_T_create_154 ?_
      refine lv_iload hx hb kd_T_create_157 (lv_at hl 6 rfl) ?_
      refine lv_iload_n hx hb kd_T_create_159 rfl (lv_at hl 2 rfl) ?_
      refine lv_iload_n hx hb kd_T_create_160 rfl (lv_at hl 3 rfl) ?_
      refine lv_iload hx hb kd_T_create_161 (lv_at hl 4 rfl) ?_
      obtain ⟨r4, e_r4, hF⟩ := fb_ob hF
      refine fb_callV (As := [.int x7, .int x2, .int x3, .int x4]) (rest := []) ⟨hx, hb, hml, hown, hts⟩ zX_mv hZ hK hP hD hS hA (c_I_make l dC dI dA a z x7 x2 x3 x4 r2.2 r4 e_r4) (cwV 4 hts (gd_V q_104 ko_I_make) rfl rfl rfl kh_I_make ⟨Nat.le_of_ble_eq_true rfl, Nat.le_of_ble_eq_true rfl⟩) 2 2 rfl rfl rfl rfl hl.1 rfl (Nat.le_of_ble_eq_true rfl) kd_T_create_163 ⟨Nat.zero_le _, Nat.zero_le _⟩ (fun H locs hP hD hS => ?_)
      refine W.eq (g2 := F0 m 166 ls []) rfl ?_
      refine lv_iload_n hx hb kd_T_create_166 rfl (lv_at hl 2 rfl) ?_
      refine lv_iconst (v := 1) hx hb kd_T_create_167 (by decide) ?_
      refine lv_icmp_ne (tgt := 182) hx hb kd_T_create_168 (by decide) (fun c5 => ?_) (fun c5 => ?_)
      · rw [if_neg c5] at hF
        exact w_T_create_182 CX o x5 x7 r4.2 hF H locs hP hD hS ls (lv_sub hl [1, 5, 6] rfl)
      · rw [if_pos c5] at hF
        refine lv_aload_n hx hb kd_T_create_171 rfl (lv_at hl 1 rfl) ?_
        refine va_get (D := (dC, dI)) (ci := 4) (v := .ref (a 1)) (C := "FileTree") (T := ft_T) (N := 5) hx hb hts fi_T hown hK hP 0 rfl rfl 0 (by decide) (hts _ q_207) (fun _ h9 => h9) rfl kd_T_create_172 ?_
        refine lv_iload hx hb kd_T_create_175 (lv_at hl 6 rfl) ?_
        refine lv_iload hx hb kd_T_create_177 (lv_at hl 5 rfl) ?_
        obtain ⟨r6, e_r6, hF⟩ := fb_ob hF
        refine fb_callV (As := [.int x7, .int x5]) (rest := []) ⟨hx, hb, hml, hown, hts⟩ zX_mv hZ hK hP hD hS hA (c_D_begin l dC dI dA a z x7 x5 r4.2 r6 e_r6) (cwV 2 hts (gd_V q_119 ko_D_begin) rfl rfl rfl kh_D_begin ⟨Nat.le_of_ble_eq_true rfl, Nat.le_of_ble_eq_true rfl⟩) 0 1 rfl rfl rfl rfl hl.1 rfl (Nat.le_of_ble_eq_true rfl) kd_T_create_179 ⟨Nat.zero_le _, Nat.zero_le _⟩ (fun H locs hP hD hS => ?_)
        refine W.eq (g2 := F0 m 182 ls []) rfl ?_
        exact w_T_create_182 CX o x5 x7 r6.2 hF H locs hP hD hS ls (lv_sub hl [1, 5, 6] rfl)
    · rw [if_pos c3] at hF
      refine lv_iconst (v := (-1)) hx hb kd_T_create_151 (by decide) ?_
      exact fb_ri (o := o) hx hb hr hlocks hK hP hD hS hF kd_T_create_152
def f_T_create (x1 : Int32) (x2 : Int32) (x3 : Int32) (x4 : Int32) (st : fb_S) : Option (Int32 × fb_S) := (f_X_cutLastName (0 : Int32) (st 6 0) st).bind fun r1 => (f_T_lead x1 (0 : Int32) r1.1 r1.2).bind fun r2 => (f_X_empty r2.2).bind fun r3 => (if r2.1 = (-1 : Int32) then some ((-1 : Int32), r3.2) else (if x2 < (1 : Int32) then some ((-1 : Int32), r3.2) else (if x2 ≤ (3 : Int32) then (f_D_entryNamed_last r2.1 r3.2).bind fun r7 => (if r7.1 = (-1 : Int32) then (f_I_leastFree r7.2).bind fun r9 => (if x2 = (1 : Int32) then b_T_create_129 x2 x3 x4 r2.1 r9.1 (1 : Int32) r9.2 else b_T_create_129 x2 x3 x4 r2.1 r9.1 (0 : Int32) r9.2) else (f_K_partAt r7.1 (65535 : Int32) r7.2).bind fun r11 => (if x2 = (2 : Int32) then (f_I_kindOf r11.1 r11.2).bind fun r13 => (if r13.1 = (1 : Int32) then some ((-1 : Int32), r13.2) else some (r11.1, r13.2)) else some ((-1 : Int32), r11.2))) else some ((-1 : Int32), r3.2))))
set_option maxHeartbeats 4000000 in
set_option maxRecDepth 100000 in
theorem w_T_create_0 {p : Program} {l : Launch} {e : Env} {s : State} {m : MethodId} {args : Array Value} {below : List Frame} {meth : Method} {c : Code} {A : Nat → Prop} {dC : Nat → ClassId} {dI : Nat → Nat → Nat} {dA : Nat → ClassId} {a : Nat → Nat} {z : Nat → Nat} (CX : fb_C p s m args meth c kc_T_create (some .int) 9 "FileTree" (dC, dI) vcl (tX dA) A (zX z)) (o : Int32 × fb_S) (x1 : Int32) (x2 : Int32) (x3 : Int32) (x4 : Int32) (st : fb_S) (hF : f_T_create x1 x2 x3 x4 st = some o) : fb_G p l e (headSpec kw_T_create rm_T_create).room s m args below meth c (dC, dI) vcl (tX dA) (wX dA a) A (some (.int o.1)) o.2 0 9 [(0, .ref (a 0)), (1, .int x1), (2, .int x2), (3, .int x3), (4, .int x4)] [] st := by
  intro H locs hP hD hS ls hl
  obtain ⟨hx, hb, hr, hml, hown, hts, hK, hA, hlocks, hZ⟩ := id CX
  unfold f_T_create at hF
  refine lv_aload_n hx hb kd_T_create_0 rfl (lv_at hl 0 rfl) ?_
  refine lv_iload_n hx hb kd_T_create_1 rfl (lv_at hl 1 rfl) ?_
  refine lv_iconst (v := 0) hx hb kd_T_create_2 (by decide) ?_
  refine lv_aload_n hx hb kd_T_create_3 rfl (lv_at hl 0 rfl) ?_
  refine va_get (D := (dC, dI)) (ci := 4) (v := .ref (a 4)) (C := "FileTree") (T := ft_T) (N := 5) hx hb hts fi_T hown hK hP 0 rfl rfl 3 (by decide) (hts _ q_210) (fun _ h9 => h9) rfl kd_T_create_4 ?_
  refine lv_iconst (v := 0) hx hb kd_T_create_7 (by decide) ?_
  refine lv_aload_n hx hb kd_T_create_8 rfl (lv_at hl 0 rfl) ?_
  refine va_get (D := (dC, dI)) (ci := 4) (v := .ref (a 4)) (C := "FileTree") (T := ft_T) (N := 5) hx hb hts fi_T hown hK hP 0 rfl rfl 3 (by decide) (hts _ q_210) (fun _ h9 => h9) rfl kd_T_create_9 ?_
  refine va_get (D := (dC, dI)) (ci := 3) (v := .int (st 6 0)) (C := "FileTree$Text") (T := ft_X) (N := 4) hx hb hts fi_X hown hK hP 4 rfl rfl 3 (by decide) (hts _ q_70) (fun _ h9 => h9) rfl kd_T_create_12 ?_
  obtain ⟨r1, e_r1, hF⟩ := fb_ob hF
  refine fb_callV (As := [.int (0 : Int32), .int (st 6 0)]) (rest := [.int (0 : Int32), .int x1, .ref (a 0)]) ⟨hx, hb, hml, hown, hts⟩ zX_mv hZ hK hP hD hS hA (c_X_cutLastName l dC dI dA a z (0 : Int32) (st 6 0) st r1 e_r1) (cwV 2 hts (gd_V q_280 ko_X_cutLastName) rfl rfl rfl kh_X_cutLastName ⟨Nat.le_of_ble_eq_true rfl, Nat.le_of_ble_eq_true rfl⟩) 3 4 rfl rfl rfl rfl hl.1 rfl (Nat.le_of_ble_eq_true rfl) kd_T_create_15 ⟨Nat.zero_le _, Nat.zero_le _⟩ (fun H locs hP hD hS => ?_)
  refine W.eq (g2 := F0 m 18 ls [.int r1.1, .int (0 : Int32), .int x1, .ref (a 0)]) rfl ?_
  obtain ⟨r2, e_r2, hF⟩ := fb_ob hF
  refine fb_callV (As := [.int x1, .int (0 : Int32), .int r1.1]) (rest := []) ⟨hx, hb, hml, hown, hts⟩ zX_mv hZ hK hP hD hS hA (c_T_lead l dC dI dA a z x1 (0 : Int32) r1.1 r1.2 r2 e_r2) (cwV 3 hts (gd_V q_236 ko_T_lead) rfl rfl rfl kh_T_lead ⟨Nat.le_of_ble_eq_true rfl, Nat.le_of_ble_eq_true rfl⟩) 4 0 rfl rfl rfl rfl hl.1 rfl (Nat.le_of_ble_eq_true rfl) kd_T_create_18 ⟨Nat.zero_le _, Nat.zero_le _⟩ (fun H locs hP hD hS => ?_)
  refine W.eq (g2 := F0 m 21 ls [.int r2.1]) rfl ?_
  refine lv_istore (lv' := [(5, .int r2.1), (0, .ref (a 0)), (1, .int x1), (2, .int x2), (3, .int x3), (4, .int x4)]) hx hb kd_T_create_21 hl (by decide) rfl (fun ls hl => ?_)
  refine lv_aload_n hx hb kd_T_create_23 rfl (lv_at hl 1 rfl) ?_
  refine va_get (D := (dC, dI)) (ci := 4) (v := .ref (a 4)) (C := "FileTree") (T := ft_T) (N := 5) hx hb hts fi_T hown hK hP 0 rfl rfl 3 (by decide) (hts _ q_210) (fun _ h9 => h9) rfl kd_T_create_24 ?_
  obtain ⟨r3, e_r3, hF⟩ := fb_ob hF
  refine fb_callV (As := []) (rest := []) ⟨hx, hb, hml, hown, hts⟩ zX_mv hZ hK hP hD hS hA (c_X_empty l dC dI dA a z r2.2 r3 e_r3) (cwV 0 hts (gd_V q_272 ko_X_empty) rfl rfl rfl kh_X_empty ⟨Nat.le_of_ble_eq_true rfl, Nat.le_of_ble_eq_true rfl⟩) 3 4 rfl rfl rfl rfl hl.1 rfl (Nat.le_of_ble_eq_true rfl) kd_T_create_27 ⟨Nat.zero_le _, Nat.zero_le _⟩ (fun H locs hP hD hS => ?_)
  refine W.eq (g2 := F0 m 30 ls []) rfl ?_
  refine lv_iload hx hb kd_T_create_30 (lv_at hl 0 rfl) ?_
  refine lv_iconst (v := (-1)) hx hb kd_T_create_32 (by decide) ?_
  refine lv_icmp_eq (tgt := 46) hx hb kd_T_create_33 (by decide) (fun c4 => ?_) (fun c4 => ?_)
  · rw [if_pos c4] at hF
    refine lv_iconst (v := (-1)) hx hb kd_T_create_46 (by decide) ?_
    exact fb_ri (o := o) hx hb hr hlocks hK hP hD hS hF kd_T_create_47
  · rw [if_neg c4] at hF
    refine lv_iload_n hx hb kd_T_create_36 rfl (lv_at hl 3 rfl) ?_
    refine lv_iconst (v := 1) hx hb kd_T_create_37 (by decide) ?_
    refine lv_icmp_lt (tgt := 46) hx hb kd_T_create_38 (by decide) (fun c5 => ?_) (fun c5 => ?_)
    · rw [if_pos c5] at hF
      refine lv_iconst (v := (-1)) hx hb kd_T_create_46 (by decide) ?_
      exact fb_ri (o := o) hx hb hr hlocks hK hP hD hS hF kd_T_create_47
    · rw [if_neg c5] at hF
      refine lv_iload_n hx hb kd_T_create_41 rfl (lv_at hl 3 rfl) ?_
      refine lv_iconst (v := 3) hx hb kd_T_create_42 (by decide) ?_
      refine lv_icmp_le (tgt := 48) hx hb kd_T_create_43 (by decide) (fun c6 => ?_) (fun c6 => ?_)
      · rw [if_pos c6] at hF
        refine lv_aload_n hx hb kd_T_create_48 rfl (lv_at hl 1 rfl) ?_
        refine va_get (D := (dC, dI)) (ci := 4) (v := .ref (a 1)) (C := "FileTree") (T := ft_T) (N := 5) hx hb hts fi_T hown hK hP 0 rfl rfl 0 (by decide) (hts _ q_207) (fun _ h9 => h9) rfl kd_T_create_49 ?_
        refine lv_iload hx hb kd_T_create_52 (lv_at hl 0 rfl) ?_
        refine lv_aload_n hx hb kd_T_create_54 rfl (lv_at hl 1 rfl) ?_
        refine va_get (D := (dC, dI)) (ci := 4) (v := .ref (a 4)) (C := "FileTree") (T := ft_T) (N := 5) hx hb hts fi_T hown hK hP 0 rfl rfl 3 (by decide) (hts _ q_210) (fun _ h9 => h9) rfl kd_T_create_55 ?_
        refine va_get (D := (dC, dI)) (ci := 3) (v := .ref (a 9)) (C := "FileTree$Text") (T := ft_X) (N := 4) hx hb hts fi_X hown hK hP 4 rfl rfl 2 (by decide) (hts _ q_68) (fun _ h9 => h9) rfl kd_T_create_58 ?_
        obtain ⟨r7, e_r7, hF⟩ := fb_ob hF
        refine fb_callV (As := [.int r2.1, .ref (a 9)]) (rest := []) ⟨hx, hb, hml, hown, hts⟩ zX_mv hZ hK hP hD hS hA (c_D_entryNamed_last l dC dI dA a z r2.1 r3.2 r7 e_r7) (cwV 2 hts (gd_V q_262 ko_D_entryNamed) rfl rfl rfl kh_D_entryNamed ⟨Nat.le_of_ble_eq_true rfl, Nat.le_of_ble_eq_true rfl⟩) 0 1 rfl rfl rfl rfl hl.1 rfl (Nat.le_of_ble_eq_true rfl) kd_T_create_61 ⟨Nat.zero_le _, Nat.zero_le _⟩ (fun H locs hP hD hS => ?_)
        refine W.eq (g2 := F0 m 64 ls [.int r7.1]) rfl ?_
        refine lv_istore (lv' := [(6, .int r7.1), (5, .int r2.1), (0, .ref (a 0)), (1, .int x1), (2, .int x2), (3, .int x3), (4, .int x4)]) hx hb kd_T_create_64 hl (by decide) rfl (fun ls hl => ?_)
        refine lv_iload hx hb kd_T_create_66 (lv_at hl 0 rfl) ?_
        refine lv_iconst (v := (-1)) hx hb kd_T_create_68 (by decide) ?_
        refine lv_icmp_eq (tgt := 110) hx hb kd_T_create_69 (by decide) (fun c8 => ?_) (fun c8 => ?_)
        · rw [if_pos c8] at hF
          refine lv_aload_n hx hb kd_T_create_110 rfl (lv_at hl 2 rfl) ?_
          refine va_get (D := (dC, dI)) (ci := 4) (v := .ref (a 2)) (C := "FileTree") (T := ft_T) (N := 5) hx hb hts fi_T hown hK hP 0 rfl rfl 1 (by decide) (hts _ q_208) (fun _ h9 => h9) rfl kd_T_create_111 ?_
          obtain ⟨r9, e_r9, hF⟩ := fb_ob hF
          refine fb_callV (As := []) (rest := []) ⟨hx, hb, hml, hown, hts⟩ zX_mv hZ hK hP hD hS hA (c_I_leastFree l dC dI dA a z r7.2 r9 e_r9) (cwV 0 hts (gd_V q_288 ko_I_leastFree) rfl rfl rfl kh_I_leastFree ⟨Nat.le_of_ble_eq_true rfl, Nat.le_of_ble_eq_true rfl⟩) 2 2 rfl rfl rfl rfl hl.1 rfl (Nat.le_of_ble_eq_true rfl) kd_T_create_114 ⟨Nat.zero_le _, Nat.zero_le _⟩ (fun H locs hP hD hS => ?_)
          refine W.eq (g2 := F0 m 117 ls [.int r9.1]) rfl ?_
          refine lv_istore (lv' := [(7, .int r9.1), (6, .int r7.1), (5, .int r2.1), (0, .ref (a 0)), (1, .int x1), (2, .int x2), (3, .int x3), (4, .int x4)]) hx hb kd_T_create_117 hl (by decide) rfl (fun ls hl => ?_)
          refine lv_iload_n hx hb kd_T_create_119 rfl (lv_at hl 5 rfl) ?_
          refine lv_iconst (v := 1) hx hb kd_T_create_120 (by decide) ?_
          refine lv_icmp_ne (tgt := 128) hx hb kd_T_create_121 (by decide) (fun c10 => ?_) (fun c10 => ?_)
          · rw [if_neg c10] at hF
            refine lv_iconst (v := 0) hx hb kd_T_create_128 (by decide) ?_
            exact w_T_create_129 CX o x2 x3 x4 r2.1 r9.1 (0 : Int32) r9.2 hF H locs hP hD hS ls (lv_sub hl [3, 5, 6, 7, 2, 0] rfl)
          · rw [if_pos c10] at hF
            refine lv_iconst (v := 1) hx hb kd_T_create_124 (by decide) ?_
            refine lv_goto (tgt := 129) hx hb kd_T_create_125 (by decide) ?_
            exact w_T_create_129 CX o x2 x3 x4 r2.1 r9.1 (1 : Int32) r9.2 hF H locs hP hD hS ls (lv_sub hl [3, 5, 6, 7, 2, 0] rfl)
        · rw [if_neg c8] at hF
          refine lv_aload_n hx hb kd_T_create_72 rfl (lv_at hl 2 rfl) ?_
          refine va_get (D := (dC, dI)) (ci := 4) (v := .ref (a 3)) (C := "FileTree") (T := ft_T) (N := 5) hx hb hts fi_T hown hK hP 0 rfl rfl 2 (by decide) (hts _ q_209) (fun _ h9 => h9) rfl kd_T_create_73 ?_
          refine lv_iload hx hb kd_T_create_76 (lv_at hl 0 rfl) ?_
          refine lv_ldc (v := 65535) hx hb hown (hts _ q_270) kd_T_create_78 ?_
          obtain ⟨r11, e_r11, hF⟩ := fb_ob hF
          refine fb_callV (As := [.int r7.1, .int (65535 : Int32)]) (rest := []) ⟨hx, hb, hml, hown, hts⟩ zX_mv hZ hK hP hD hS hA (c_K_partAt l dC dI dA a z r7.1 (65535 : Int32) r7.2 r11 e_r11) (cwV 2 hts (gd_V q_271 ko_K_partAt) rfl rfl rfl kh_K_partAt ⟨Nat.le_of_ble_eq_true rfl, Nat.le_of_ble_eq_true rfl⟩) 1 3 rfl rfl rfl rfl hl.1 rfl (Nat.le_of_ble_eq_true rfl) kd_T_create_80 ⟨Nat.zero_le _, Nat.zero_le _⟩ (fun H locs hP hD hS => ?_)
          refine W.eq (g2 := F0 m 83 ls [.int r11.1]) rfl ?_
          refine lv_istore (lv' := [(7, .int r11.1), (6, .int r7.1), (5, .int r2.1), (0, .ref (a 0)), (1, .int x1), (2, .int x2), (3, .int x3), (4, .int x4)]) hx hb kd_T_create_83 hl (by decide) rfl (fun ls hl => ?_)
          refine lv_iload_n hx hb kd_T_create_85 rfl (lv_at hl 5 rfl) ?_
          refine lv_iconst (v := 2) hx hb kd_T_create_86 (by decide) ?_
          refine lv_icmp_ne (tgt := 108) hx hb kd_T_create_87 (by decide) (fun c12 => ?_) (fun c12 => ?_)
          · rw [if_neg c12] at hF
            refine lv_iconst (v := (-1)) hx hb kd_T_create_108 (by decide) ?_
            exact fb_ri (o := o) hx hb hr hlocks hK hP hD hS hF kd_T_create_109
          · rw [if_pos c12] at hF
            refine lv_aload_n hx hb kd_T_create_90 rfl (lv_at hl 3 rfl) ?_
            refine va_get (D := (dC, dI)) (ci := 4) (v := .ref (a 2)) (C := "FileTree") (T := ft_T) (N := 5) hx hb hts fi_T hown hK hP 0 rfl rfl 1 (by decide) (hts _ q_208) (fun _ h9 => h9) rfl kd_T_create_91 ?_
            refine lv_iload hx hb kd_T_create_94 (lv_at hl 0 rfl) ?_
            obtain ⟨r13, e_r13, hF⟩ := fb_ob hF
            refine fb_callV (As := [.int r11.1]) (rest := []) ⟨hx, hb, hml, hown, hts⟩ zX_mv hZ hK hP hD hS hA (c_I_kindOf l dC dI dA a z r11.1 r11.2 r13 e_r13) (cwV 1 hts (gd_V q_287 ko_I_kindOf) rfl rfl rfl kh_I_kindOf ⟨Nat.le_of_ble_eq_true rfl, Nat.le_of_ble_eq_true rfl⟩) 2 2 rfl rfl rfl rfl hl.1 rfl (Nat.le_of_ble_eq_true rfl) kd_T_create_96 ⟨Nat.zero_le _, Nat.zero_le _⟩ (fun H locs hP hD hS => ?_)
            refine W.eq (g2 := F0 m 99 ls [.int r13.1]) rfl ?_
            refine lv_iconst (v := 1) hx hb kd_T_create_99 (by decide) ?_
            refine lv_icmp_eq (tgt := 108) hx hb kd_T_create_100 (by decide) (fun c14 => ?_) (fun c14 => ?_)
            · rw [if_pos c14] at hF
              refine lv_iconst (v := (-1)) hx hb kd_T_create_108 (by decide) ?_
              exact fb_ri (o := o) hx hb hr hlocks hK hP hD hS hF kd_T_create_109
            · rw [if_neg c14] at hF
              refine lv_iload hx hb kd_T_create_103 (lv_at hl 0 rfl) ?_
              refine lv_goto (tgt := 109) hx hb kd_T_create_105 (by decide) ?_
              exact fb_ri (o := o) hx hb hr hlocks hK hP hD hS hF kd_T_create_109
      · rw [if_neg c6] at hF
        refine lv_iconst (v := (-1)) hx hb kd_T_create_46 (by decide) ?_
        exact fb_ri (o := o) hx hb hr hlocks hK hP hD hS hF kd_T_create_47
theorem c_T_create (l : Launch) (dC : Nat → ClassId) (dI : Nat → Nat → Nat) (dA : Nat → ClassId) (a : Nat → Nat) (z : Nat → Nat) (x1 : Int32) (x2 : Int32) (x3 : Int32) (x4 : Int32) (st : fb_S) (o : Int32 × fb_S) (h : f_T_create x1 x2 x3 x4 st = some o) : fb_M l ky_T_create kw_T_create rm_T_create (dC, dI) vcl (tX dA) (wX dA a) (zX z) [.ref (a 0), .int x1, .int x2, .int x3, .int x4] (some (.int o.1)) st o.2 := fb_enter (by decide) rfl (Nat.le_of_ble_eq_true rfl) (fun p e s m below meth c A CX hP hD hS ls hl => w_T_create_0 CX o x1 x2 x3 x4 st h s.heap [] hP hD hS ls hl)
abbrev rm_X_firstBlank : Room := { frames := 1, cells := 0, slots := 0, locals := 21 }
def b_X_firstBlank_2 (k2 : Int32 → fb_S → Option (Int32 × fb_S)) (x1 : Int32) (st : fb_S) : Option (Int32 × fb_S) := (if (st 6 0) ≤ x1 then some ((-1 : Int32), st) else (f_X_byteAt x1 st).bind fun r2 => (if r2.1 = (32 : Int32) then some (x1, r2.2) else k2 (x1 + (1 : Int32)) r2.2))
set_option maxHeartbeats 4000000 in
set_option maxRecDepth 100000 in
theorem w_X_firstBlank_2 {p : Program} {l : Launch} {e : Env} {s : State} {m : MethodId} {args : Array Value} {below : List Frame} {meth : Method} {c : Code} {A : Nat → Prop} {dC : Nat → ClassId} {dI : Nat → Nat → Nat} {dA : Nat → ClassId} {a : Nat → Nat} {z : Nat → Nat} (CX : fb_C p s m args meth c kc_X_firstBlank (some .int) 2 "FileTree$Text" (dC, dI) vcl (tX dA) A (zX z)) (o : Int32 × fb_S) (k2 : Int32 → fb_S → Option (Int32 × fb_S)) (hk2 : ∀ (x1 : Int32) (st : fb_S), k2 x1 st = some o → fb_G p l e (headSpec kw_X_firstBlank rm_X_firstBlank).room s m args below meth c (dC, dI) vcl (tX dA) (wX dA a) A (some (.int o.1)) o.2 2 2 [(0, .ref (a 4)), (1, .int x1)] [] st) (x1 : Int32) (st : fb_S) (hF : b_X_firstBlank_2 k2 x1 st = some o) : fb_G p l e (headSpec kw_X_firstBlank rm_X_firstBlank).room s m args below meth c (dC, dI) vcl (tX dA) (wX dA a) A (some (.int o.1)) o.2 2 2 [(0, .ref (a 4)), (1, .int x1)] [] st := by
  intro H locs hP hD hS ls hl
  obtain ⟨hx, hb, hr, hml, hown, hts, hK, hA, hlocks, hZ⟩ := id CX
  unfold b_X_firstBlank_2 at hF
  refine lv_iload_n hx hb kd_X_firstBlank_2 rfl (lv_at hl 1 rfl) ?_
  refine lv_aload_n hx hb kd_X_firstBlank_3 rfl (lv_at hl 0 rfl) ?_
  refine va_get (D := (dC, dI)) (ci := 3) (v := .int (st 6 0)) (C := "FileTree$Text") (T := ft_X) (N := 4) hx hb hts fi_X hown hK hP 4 rfl rfl 3 (by decide) (hts _ q_69) (fun _ h9 => h9) rfl kd_X_firstBlank_4 ?_
  refine lv_icmp_ge (tgt := 28) hx hb kd_X_firstBlank_7 (by decide) (fun c1 => ?_) (fun c1 => ?_)
  · rw [if_pos c1] at hF
    refine lv_iconst (v := (-1)) hx hb kd_X_firstBlank_28 (by decide) ?_
    exact fb_ri (o := o) hx hb hr hlocks hK hP hD hS hF kd_X_firstBlank_29
  · rw [if_neg c1] at hF
    refine lv_aload_n hx hb kd_X_firstBlank_10 rfl (lv_at hl 0 rfl) ?_
    refine lv_iload_n hx hb kd_X_firstBlank_11 rfl (lv_at hl 1 rfl) ?_
    obtain ⟨r2, e_r2, hF⟩ := fb_ob hF
    refine fb_callV (As := [.int x1]) (rest := []) ⟨hx, hb, hml, hown, hts⟩ zX_mv hZ hK hP hD hS hA (c_X_byteAt l dC dI dA a z x1 st r2 e_r2) (cwV 1 hts (gd_V q_249 ko_X_byteAt) rfl rfl rfl kh_X_byteAt ⟨Nat.le_of_ble_eq_true rfl, Nat.le_of_ble_eq_true rfl⟩) 3 4 rfl rfl rfl rfl hl.1 rfl (Nat.le_of_ble_eq_true rfl) kd_X_firstBlank_12 ⟨Nat.zero_le _, Nat.zero_le _⟩ (fun H locs hP hD hS => ?_)
    refine W.eq (g2 := F0 m 15 ls [.int r2.1]) rfl ?_
    refine lv_bipush (v := 32) hx hb kd_X_firstBlank_15 (by decide) ?_
    refine lv_icmp_ne (tgt := 22) hx hb kd_X_firstBlank_17 (by decide) (fun c3 => ?_) (fun c3 => ?_)
    · rw [if_neg c3] at hF
      refine lv_iinc (v := x1 + (1 : Int32)) (lv' := [(1, .int (x1 + (1 : Int32))), (0, .ref (a 4))]) hx hb kd_X_firstBlank_22 hl (k := 1) rfl rfl (by decide) rfl (fun ls hl => ?_)
      refine lv_goto (tgt := 2) hx hb kd_X_firstBlank_25 (by decide) ?_
      exact hk2 (x1 + (1 : Int32)) r2.2 hF H locs hP hD hS ls (lv_sub hl [1, 0] rfl)
    · rw [if_pos c3] at hF
      refine lv_iload_n hx hb kd_X_firstBlank_20 rfl (lv_at hl 1 rfl) ?_
      exact fb_ri (o := o) hx hb hr hlocks hK hP hD hS hF kd_X_firstBlank_21
def l_X_firstBlank_2 : Nat → Int32 → fb_S → Option (Int32 × fb_S)
  | 0 => fun _ _ => none
  | n + 1 => b_X_firstBlank_2 (l_X_firstBlank_2 n)
theorem v_X_firstBlank_2 {p : Program} {l : Launch} {e : Env} {s : State} {m : MethodId} {args : Array Value} {below : List Frame} {meth : Method} {c : Code} {A : Nat → Prop} {dC : Nat → ClassId} {dI : Nat → Nat → Nat} {dA : Nat → ClassId} {a : Nat → Nat} {z : Nat → Nat} (CX : fb_C p s m args meth c kc_X_firstBlank (some .int) 2 "FileTree$Text" (dC, dI) vcl (tX dA) A (zX z)) (o : Int32 × fb_S) (n : Nat) : ∀ (x1 : Int32) (st : fb_S), l_X_firstBlank_2 n x1 st = some o → fb_G p l e (headSpec kw_X_firstBlank rm_X_firstBlank).room s m args below meth c (dC, dI) vcl (tX dA) (wX dA a) A (some (.int o.1)) o.2 2 2 [(0, .ref (a 4)), (1, .int x1)] [] st := by
  induction n with
  | zero => intro x1 st hF; cases hF
  | succ n ih => intro x1 st hF; exact w_X_firstBlank_2 CX o (l_X_firstBlank_2 n) ih x1 st hF
def f_X_firstBlank (st : fb_S) : Option (Int32 × fb_S) := l_X_firstBlank_2 fb_n (0 : Int32) st
set_option maxHeartbeats 4000000 in
set_option maxRecDepth 100000 in
theorem w_X_firstBlank_0 {p : Program} {l : Launch} {e : Env} {s : State} {m : MethodId} {args : Array Value} {below : List Frame} {meth : Method} {c : Code} {A : Nat → Prop} {dC : Nat → ClassId} {dI : Nat → Nat → Nat} {dA : Nat → ClassId} {a : Nat → Nat} {z : Nat → Nat} (CX : fb_C p s m args meth c kc_X_firstBlank (some .int) 2 "FileTree$Text" (dC, dI) vcl (tX dA) A (zX z)) (o : Int32 × fb_S) (st : fb_S) (hF : f_X_firstBlank st = some o) : fb_G p l e (headSpec kw_X_firstBlank rm_X_firstBlank).room s m args below meth c (dC, dI) vcl (tX dA) (wX dA a) A (some (.int o.1)) o.2 0 2 [(0, .ref (a 4))] [] st := by
  intro H locs hP hD hS ls hl
  obtain ⟨hx, hb, hr, hml, hown, hts, hK, hA, hlocks, hZ⟩ := id CX
  unfold f_X_firstBlank at hF
  refine lv_iconst (v := 0) hx hb kd_X_firstBlank_0 (by decide) ?_
  refine lv_istore_n (lv' := [(1, .int (0 : Int32)), (0, .ref (a 4))]) hx hb kd_X_firstBlank_1 rfl hl (by decide) rfl (fun ls hl => ?_)
  exact v_X_firstBlank_2 CX o fb_n (0 : Int32) st hF H locs hP hD hS ls (lv_sub hl [1, 0] rfl)
theorem c_X_firstBlank (l : Launch) (dC : Nat → ClassId) (dI : Nat → Nat → Nat) (dA : Nat → ClassId) (a : Nat → Nat) (z : Nat → Nat) (st : fb_S) (o : Int32 × fb_S) (h : f_X_firstBlank st = some o) : fb_M l ky_X_firstBlank kw_X_firstBlank rm_X_firstBlank (dC, dI) vcl (tX dA) (wX dA a) (zX z) [.ref (a 4)] (some (.int o.1)) st o.2 := fb_enter (by decide) rfl (Nat.le_of_ble_eq_true rfl) (fun p e s m below meth c A CX hP hD hS ls hl => w_X_firstBlank_0 CX o st h s.heap [] hP hD hS ls hl)
