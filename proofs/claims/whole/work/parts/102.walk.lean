abbrev rm_K_takeBlock : Room := { frames := 2, cells := 0, slots := 0, locals := 50 }
def b_K_takeBlock_3 (k3 : Int32 → fb_S → Option (Int32 × fb_S)) (x1 : Int32) (st : fb_S) : Option (Int32 × fb_S) := (if (512 : Int32) ≤ x1 then some ((0 : Int32), st) else (f_K_partAt ((37888 : Int32) + (x1 / (8 : Int32))) (255 : Int32) st).bind fun r2 => (if ((r2.1 >>> ((x1 &&& (7 : Int32)) &&& 31)) &&& (1 : Int32)) = (0 : Int32) then (f_K_mark x1 (1 : Int32) r2.2).bind fun r4 => (f_K_wipe (x1 * (1024 : Int32)) (1024 : Int32) r4.2).bind fun r5 => some (x1, r5.2) else k3 (x1 + (1 : Int32)) r2.2))
set_option maxHeartbeats 4000000 in
set_option maxRecDepth 100000 in
theorem w_K_takeBlock_3 {p : Program} {l : Launch} {e : Env} {s : State} {m : MethodId} {args : Array Value} {below : List Frame} {meth : Method} {c : Code} {A : Nat → Prop} {dC : Nat → ClassId} {dI : Nat → Nat → Nat} {dA : Nat → ClassId} {a : Nat → Nat} {z : Nat → Nat} (CX : fb_C p s m args meth c kc_K_takeBlock (some .int) 3 "FileTree$Disk" (dC, dI) vcl (tX dA) A (zX z)) (o : Int32 × fb_S) (k3 : Int32 → fb_S → Option (Int32 × fb_S)) (hk3 : ∀ (x1 : Int32) (st : fb_S), k3 x1 st = some o → fb_G p l e (headSpec kw_K_takeBlock rm_K_takeBlock).room s m args below meth c (dC, dI) vcl (tX dA) (wX dA a) A (some (.int o.1)) o.2 3 3 [(0, .ref (a 3)), (1, .int x1)] [] st) (x1 : Int32) (st : fb_S) (hF : b_K_takeBlock_3 k3 x1 st = some o) : fb_G p l e (headSpec kw_K_takeBlock rm_K_takeBlock).room s m args below meth c (dC, dI) vcl (tX dA) (wX dA a) A (some (.int o.1)) o.2 3 3 [(0, .ref (a 3)), (1, .int x1)] [] st := by
  intro H locs hP hD hS ls hl
  obtain ⟨hx, hb, hr, hml, hown, hts, hK, hA, hlocks, hZ⟩ := id CX
  unfold b_K_takeBlock_3 at hF
  refine lv_iload_n hx hb kd_K_takeBlock_3 rfl (lv_at hl 1 rfl) ?_
  refine lv_sipush (v := 512) hx hb kd_K_takeBlock_4 (by decide) ?_
  refine lv_icmp_ge (tgt := 62) hx hb kd_K_takeBlock_7 (by decide) (fun c1 => ?_) (fun c1 => ?_)
  · rw [if_pos c1] at hF
    refine lv_iconst (v := 0) hx hb kd_K_takeBlock_62 (by decide) ?_
    exact fb_ri (o := o) hx hb hr hlocks hK hP hD hS hF kd_K_takeBlock_63
  · rw [if_neg c1] at hF
    refine lv_aload_n hx hb kd_K_takeBlock_10 rfl (lv_at hl 0 rfl) ?_
    refine lv_ldc (v := 37888) hx hb hown (hts _ q_95) kd_K_takeBlock_11 ?_
    refine lv_iload_n hx hb kd_K_takeBlock_13 rfl (lv_at hl 1 rfl) ?_
    refine lv_bipush (v := 8) hx hb kd_K_takeBlock_14 (by decide) ?_
    refine lv_idiv hx hb kd_K_takeBlock_16 (by decide) ?_
    refine lv_iadd hx hb kd_K_takeBlock_17 ?_
    refine lv_sipush (v := 255) hx hb kd_K_takeBlock_18 (by decide) ?_
    obtain ⟨r2, e_r2, hF⟩ := fb_ob hF
    refine fb_callV (As := [.int ((37888 : Int32) + (x1 / (8 : Int32))), .int (255 : Int32)]) (rest := []) ⟨hx, hb, hml, hown, hts⟩ zX_mv hZ hK hP hD hS hA (c_K_partAt l dC dI dA a z ((37888 : Int32) + (x1 / (8 : Int32))) (255 : Int32) st r2 e_r2) (cwV 2 hts (gd_V q_96 ko_K_partAt) rfl rfl rfl kh_K_partAt ⟨Nat.le_of_ble_eq_true rfl, Nat.le_of_ble_eq_true rfl⟩) 1 3 rfl rfl rfl rfl hl.1 rfl (Nat.le_of_ble_eq_true rfl) kd_K_takeBlock_21 ⟨Nat.zero_le _, Nat.zero_le _⟩ (fun H locs hP hD hS => ?_)
    refine W.eq (g2 := F0 m 24 ls [.int r2.1]) rfl ?_
    refine lv_iload_n hx hb kd_K_takeBlock_24 rfl (lv_at hl 1 rfl) ?_
    refine lv_bipush (v := 7) hx hb kd_K_takeBlock_25 (by decide) ?_
    refine lv_iand hx hb kd_K_takeBlock_27 ?_
    refine lv_ishr hx hb kd_K_takeBlock_28 ?_
    refine lv_iconst (v := 1) hx hb kd_K_takeBlock_29 (by decide) ?_
    refine lv_iand hx hb kd_K_takeBlock_30 ?_
    refine lv_istore_n (lv' := [(2, .int ((r2.1 >>> ((x1 &&& (7 : Int32)) &&& 31)) &&& (1 : Int32))), (0, .ref (a 3)), (1, .int x1)]) hx hb kd_K_takeBlock_31 rfl hl (by decide) rfl (fun ls hl => ?_)
    refine lv_iload_n hx hb kd_K_takeBlock_32 rfl (lv_at hl 0 rfl) ?_
    refine lv_if_ne (tgt := 56) hx hb kd_K_takeBlock_33 (by decide) (fun c3 => ?_) (fun c3 => ?_)
    · rw [if_neg c3] at hF
      refine lv_iinc (v := x1 + (1 : Int32)) (lv' := [(1, .int (x1 + (1 : Int32))), (2, .int ((r2.1 >>> ((x1 &&& (7 : Int32)) &&& 31)) &&& (1 : Int32))), (0, .ref (a 3))]) hx hb kd_K_takeBlock_56 hl (k := 2) rfl rfl (by decide) rfl (fun ls hl => ?_)
      refine lv_goto (tgt := 3) hx hb kd_K_takeBlock_59 (by decide) ?_
      exact hk3 (x1 + (1 : Int32)) r2.2 hF H locs hP hD hS ls (lv_sub hl [2, 0] rfl)
    · rw [if_pos c3] at hF
      refine lv_aload_n hx hb kd_K_takeBlock_36 rfl (lv_at hl 1 rfl) ?_
      refine lv_iload_n hx hb kd_K_takeBlock_37 rfl (lv_at hl 2 rfl) ?_
      refine lv_iconst (v := 1) hx hb kd_K_takeBlock_38 (by decide) ?_
      obtain ⟨r4, e_r4, hF⟩ := fb_ob hF
      refine fb_callV (As := [.int x1, .int (1 : Int32)]) (rest := []) ⟨hx, hb, hml, hown, hts⟩ zX_mv hZ hK hP hD hS hA (c_K_mark l dC dI dA a z x1 (1 : Int32) r2.2 r4 e_r4) (cwV 2 hts (gd_V q_91 ko_K_mark) rfl rfl rfl kh_K_mark ⟨Nat.le_of_ble_eq_true rfl, Nat.le_of_ble_eq_true rfl⟩) 1 3 rfl rfl rfl rfl hl.1 rfl (Nat.le_of_ble_eq_true rfl) kd_K_takeBlock_39 ⟨Nat.zero_le _, Nat.zero_le _⟩ (fun H locs hP hD hS => ?_)
      refine W.eq (g2 := F0 m 42 ls []) rfl ?_
      refine lv_aload_n hx hb kd_K_takeBlock_42 rfl (lv_at hl 1 rfl) ?_
      refine lv_iload_n hx hb kd_K_takeBlock_43 rfl (lv_at hl 2 rfl) ?_
      refine lv_sipush (v := 1024) hx hb kd_K_takeBlock_44 (by decide) ?_
      refine lv_imul hx hb kd_K_takeBlock_47 ?_
      refine lv_sipush (v := 1024) hx hb kd_K_takeBlock_48 (by decide) ?_
      obtain ⟨r5, e_r5, hF⟩ := fb_ob hF
      refine fb_callV (As := [.int (x1 * (1024 : Int32)), .int (1024 : Int32)]) (rest := []) ⟨hx, hb, hml, hown, hts⟩ zX_mv hZ hK hP hD hS hA (c_K_wipe l dC dI dA a z (x1 * (1024 : Int32)) (1024 : Int32) r4.2 r5 e_r5) (cwV 2 hts (gd_V q_183 ko_K_wipe) rfl rfl rfl kh_K_wipe ⟨Nat.le_of_ble_eq_true rfl, Nat.le_of_ble_eq_true rfl⟩) 1 3 rfl rfl rfl rfl hl.1 rfl (Nat.le_of_ble_eq_true rfl) kd_K_takeBlock_51 ⟨Nat.zero_le _, Nat.zero_le _⟩ (fun H locs hP hD hS => ?_)
      refine W.eq (g2 := F0 m 54 ls []) rfl ?_
      refine lv_iload_n hx hb kd_K_takeBlock_54 rfl (lv_at hl 2 rfl) ?_
      exact fb_ri (o := o) hx hb hr hlocks hK hP hD hS hF kd_K_takeBlock_55
def l_K_takeBlock_3 : Nat → Int32 → fb_S → Option (Int32 × fb_S)
  | 0 => fun _ _ => none
  | n + 1 => b_K_takeBlock_3 (l_K_takeBlock_3 n)
theorem v_K_takeBlock_3 {p : Program} {l : Launch} {e : Env} {s : State} {m : MethodId} {args : Array Value} {below : List Frame} {meth : Method} {c : Code} {A : Nat → Prop} {dC : Nat → ClassId} {dI : Nat → Nat → Nat} {dA : Nat → ClassId} {a : Nat → Nat} {z : Nat → Nat} (CX : fb_C p s m args meth c kc_K_takeBlock (some .int) 3 "FileTree$Disk" (dC, dI) vcl (tX dA) A (zX z)) (o : Int32 × fb_S) (n : Nat) : ∀ (x1 : Int32) (st : fb_S), l_K_takeBlock_3 n x1 st = some o → fb_G p l e (headSpec kw_K_takeBlock rm_K_takeBlock).room s m args below meth c (dC, dI) vcl (tX dA) (wX dA a) A (some (.int o.1)) o.2 3 3 [(0, .ref (a 3)), (1, .int x1)] [] st := by
  induction n with
  | zero => intro x1 st hF; cases hF
  | succ n ih => intro x1 st hF; exact w_K_takeBlock_3 CX o (l_K_takeBlock_3 n) ih x1 st hF
def f_K_takeBlock (st : fb_S) : Option (Int32 × fb_S) := l_K_takeBlock_3 fb_n (38 : Int32) st
set_option maxHeartbeats 4000000 in
set_option maxRecDepth 100000 in
theorem w_K_takeBlock_0 {p : Program} {l : Launch} {e : Env} {s : State} {m : MethodId} {args : Array Value} {below : List Frame} {meth : Method} {c : Code} {A : Nat → Prop} {dC : Nat → ClassId} {dI : Nat → Nat → Nat} {dA : Nat → ClassId} {a : Nat → Nat} {z : Nat → Nat} (CX : fb_C p s m args meth c kc_K_takeBlock (some .int) 3 "FileTree$Disk" (dC, dI) vcl (tX dA) A (zX z)) (o : Int32 × fb_S) (st : fb_S) (hF : f_K_takeBlock st = some o) : fb_G p l e (headSpec kw_K_takeBlock rm_K_takeBlock).room s m args below meth c (dC, dI) vcl (tX dA) (wX dA a) A (some (.int o.1)) o.2 0 3 [(0, .ref (a 3))] [] st := by
  intro H locs hP hD hS ls hl
  obtain ⟨hx, hb, hr, hml, hown, hts, hK, hA, hlocks, hZ⟩ := id CX
  unfold f_K_takeBlock at hF
  refine lv_bipush (v := 38) hx hb kd_K_takeBlock_0 (by decide) ?_
  refine lv_istore_n (lv' := [(1, .int (38 : Int32)), (0, .ref (a 3))]) hx hb kd_K_takeBlock_2 rfl hl (by decide) rfl (fun ls hl => ?_)
  exact v_K_takeBlock_3 CX o fb_n (38 : Int32) st hF H locs hP hD hS ls (lv_sub hl [1, 0] rfl)
theorem c_K_takeBlock (l : Launch) (dC : Nat → ClassId) (dI : Nat → Nat → Nat) (dA : Nat → ClassId) (a : Nat → Nat) (z : Nat → Nat) (st : fb_S) (o : Int32 × fb_S) (h : f_K_takeBlock st = some o) : fb_M l ky_K_takeBlock kw_K_takeBlock rm_K_takeBlock (dC, dI) vcl (tX dA) (wX dA a) (zX z) [.ref (a 3)] (some (.int o.1)) st o.2 := fb_enter (by decide) rfl (Nat.le_of_ble_eq_true rfl) (fun p e s m below meth c A CX hP hD hS ls hl => w_K_takeBlock_0 CX o st h s.heap [] hP hD hS ls hl)
abbrev rm_I_addBlock : Room := { frames := 3, cells := 0, slots := 0, locals := 72 }
def b_I_addBlock_52 (x1 : Int32) (x2 : Int32) (st : fb_S) : Option (Int32 × fb_S) := (f_I_slotOf x1 x2 st).bind fun r1 => (f_K_takeBlock r1.2).bind fun r2 => (f_K_setNumber r1.1 r2.1 r2.2).bind fun r3 => fb_rz (1 : Int32) r3.2
set_option maxHeartbeats 4000000 in
set_option maxRecDepth 100000 in
theorem w_I_addBlock_52 {p : Program} {l : Launch} {e : Env} {s : State} {m : MethodId} {args : Array Value} {below : List Frame} {meth : Method} {c : Code} {A : Nat → Prop} {dC : Nat → ClassId} {dI : Nat → Nat → Nat} {dA : Nat → ClassId} {a : Nat → Nat} {z : Nat → Nat} (CX : fb_C p s m args meth c kc_I_addBlock (some .boolean) 3 "FileTree$Inodes" (dC, dI) vcl (tX dA) A (zX z)) (o : Int32 × fb_S) (x1 : Int32) (x2 : Int32) (st : fb_S) (hF : b_I_addBlock_52 x1 x2 st = some o) : fb_G p l e (headSpec kw_I_addBlock rm_I_addBlock).room s m args below meth c (dC, dI) vcl (tX dA) (wX dA a) A (some (.int o.1)) o.2 52 3 [(0, .ref (a 2)), (1, .int x1), (2, .int x2)] [] st := by
  intro H locs hP hD hS ls hl
  obtain ⟨hx, hb, hr, hml, hown, hts, hK, hA, hlocks, hZ⟩ := id CX
  unfold b_I_addBlock_52 at hF
  refine lv_aload_n hx hb kd_I_addBlock_52 rfl (lv_at hl 0 rfl) ?_
  refine va_get (D := (dC, dI)) (ci := 2) (v := .ref (a 3)) (C := "FileTree$Inodes") (T := ft_I) (N := 2) hx hb hts fi_I hown hK hP 2 rfl rfl 0 (by decide) (hts _ q_41) (fun _ h9 => h9) rfl kd_I_addBlock_53 ?_
  refine lv_aload_n hx hb kd_I_addBlock_56 rfl (lv_at hl 0 rfl) ?_
  refine lv_iload_n hx hb kd_I_addBlock_57 rfl (lv_at hl 1 rfl) ?_
  refine lv_iload_n hx hb kd_I_addBlock_58 rfl (lv_at hl 2 rfl) ?_
  obtain ⟨r1, e_r1, hF⟩ := fb_ob hF
  refine fb_callV (As := [.int x1, .int x2]) (rest := [.ref (a 3)]) ⟨hx, hb, hml, hown, hts⟩ zX_mv hZ hK hP hD hS hA (c_I_slotOf l dC dI dA a z x1 x2 st r1 e_r1) (cwV 2 hts (gd_V q_154 ko_I_slotOf) rfl rfl rfl kh_I_slotOf ⟨Nat.le_of_ble_eq_true rfl, Nat.le_of_ble_eq_true rfl⟩) 2 2 rfl rfl rfl rfl hl.1 rfl (Nat.le_of_ble_eq_true rfl) kd_I_addBlock_59 ⟨Nat.zero_le _, Nat.zero_le _⟩ (fun H locs hP hD hS => ?_)
  refine W.eq (g2 := F0 m 62 ls [.int r1.1, .ref (a 3)]) rfl ?_
  refine lv_aload_n hx hb kd_I_addBlock_62 rfl (lv_at hl 0 rfl) ?_
  refine va_get (D := (dC, dI)) (ci := 2) (v := .ref (a 3)) (C := "FileTree$Inodes") (T := ft_I) (N := 2) hx hb hts fi_I hown hK hP 2 rfl rfl 0 (by decide) (hts _ q_41) (fun _ h9 => h9) rfl kd_I_addBlock_63 ?_
  obtain ⟨r2, e_r2, hF⟩ := fb_ob hF
  refine fb_callV (As := []) (rest := [.int r1.1, .ref (a 3)]) ⟨hx, hb, hml, hown, hts⟩ zX_mv hZ hK hP hD hS hA (c_K_takeBlock l dC dI dA a z r1.2 r2 e_r2) (cwV 0 hts (gd_V q_179 ko_K_takeBlock) rfl rfl rfl kh_K_takeBlock ⟨Nat.le_of_ble_eq_true rfl, Nat.le_of_ble_eq_true rfl⟩) 1 3 rfl rfl rfl rfl hl.1 rfl (Nat.le_of_ble_eq_true rfl) kd_I_addBlock_66 ⟨Nat.zero_le _, Nat.zero_le _⟩ (fun H locs hP hD hS => ?_)
  refine W.eq (g2 := F0 m 69 ls [.int r2.1, .int r1.1, .ref (a 3)]) rfl ?_
  obtain ⟨r3, e_r3, hF⟩ := fb_ob hF
  refine fb_callV (As := [.int r1.1, .int r2.1]) (rest := []) ⟨hx, hb, hml, hown, hts⟩ zX_mv hZ hK hP hD hS hA (c_K_setNumber l dC dI dA a z r1.1 r2.1 r2.2 r3 e_r3) (cwV 2 hts (gd_V q_187 ko_K_setNumber) rfl rfl rfl kh_K_setNumber ⟨Nat.le_of_ble_eq_true rfl, Nat.le_of_ble_eq_true rfl⟩) 1 3 rfl rfl rfl rfl hl.1 rfl (Nat.le_of_ble_eq_true rfl) kd_I_addBlock_69 ⟨Nat.zero_le _, Nat.zero_le _⟩ (fun H locs hP hD hS => ?_)
  refine W.eq (g2 := F0 m 72 ls []) rfl ?_
  refine lv_iconst (v := 1) hx hb kd_I_addBlock_72 (by decide) ?_
  exact fb_rb (o := o) hx hb hr hlocks hK hP hD hS hF kd_I_addBlock_73
def f_I_addBlock (x1 : Int32) (x2 : Int32) (st : fb_S) : Option (Int32 × fb_S) := (if (268 : Int32) ≤ x2 then fb_rz (0 : Int32) st else (f_I_blocksToAdd x2 st).bind fun r2 => (f_K_freeBlocks r2.2).bind fun r3 => (if r2.1 ≤ r3.1 then (if x2 = (12 : Int32) then (f_I_placeOf x1 r3.2).bind fun r6 => (f_K_takeBlock r6.2).bind fun r7 => (f_K_setNumber (r6.1 + (60 : Int32)) r7.1 r7.2).bind fun r8 => b_I_addBlock_52 x1 x2 r8.2 else b_I_addBlock_52 x1 x2 r3.2) else fb_rz (0 : Int32) r3.2))
set_option maxHeartbeats 4000000 in
set_option maxRecDepth 100000 in
theorem w_I_addBlock_0 {p : Program} {l : Launch} {e : Env} {s : State} {m : MethodId} {args : Array Value} {below : List Frame} {meth : Method} {c : Code} {A : Nat → Prop} {dC : Nat → ClassId} {dI : Nat → Nat → Nat} {dA : Nat → ClassId} {a : Nat → Nat} {z : Nat → Nat} (CX : fb_C p s m args meth c kc_I_addBlock (some .boolean) 3 "FileTree$Inodes" (dC, dI) vcl (tX dA) A (zX z)) (o : Int32 × fb_S) (x1 : Int32) (x2 : Int32) (st : fb_S) (hF : f_I_addBlock x1 x2 st = some o) : fb_G p l e (headSpec kw_I_addBlock rm_I_addBlock).room s m args below meth c (dC, dI) vcl (tX dA) (wX dA a) A (some (.int o.1)) o.2 0 3 [(0, .ref (a 2)), (1, .int x1), (2, .int x2)] [] st := by
  intro H locs hP hD hS ls hl
  obtain ⟨hx, hb, hr, hml, hown, hts, hK, hA, hlocks, hZ⟩ := id CX
  unfold f_I_addBlock at hF
  refine lv_iload_n hx hb kd_I_addBlock_0 rfl (lv_at hl 2 rfl) ?_
  refine lv_sipush (v := 268) hx hb kd_I_addBlock_1 (by decide) ?_
  refine lv_icmp_ge (tgt := 22) hx hb kd_I_addBlock_4 (by decide) (fun c1 => ?_) (fun c1 => ?_)
  · rw [if_pos c1] at hF
    refine lv_iconst (v := 0) hx hb kd_I_addBlock_22 (by decide) ?_
    exact fb_rb (o := o) hx hb hr hlocks hK hP hD hS hF kd_I_addBlock_23
  · rw [if_neg c1] at hF
    refine lv_aload_n hx hb kd_I_addBlock_7 rfl (lv_at hl 0 rfl) ?_
    refine lv_iload_n hx hb kd_I_addBlock_8 rfl (lv_at hl 2 rfl) ?_
    obtain ⟨r2, e_r2, hF⟩ := fb_ob hF
    refine fb_callV (As := [.int x2]) (rest := []) ⟨hx, hb, hml, hown, hts⟩ zX_mv hZ hK hP hD hS hA (c_I_blocksToAdd l dC dI dA a z x2 st r2 e_r2) (cwV 1 hts (gd_V q_164 ko_I_blocksToAdd) rfl rfl rfl kh_I_blocksToAdd ⟨Nat.le_of_ble_eq_true rfl, Nat.le_of_ble_eq_true rfl⟩) 2 2 rfl rfl rfl rfl hl.1 rfl (Nat.le_of_ble_eq_true rfl) kd_I_addBlock_9 ⟨Nat.zero_le _, Nat.zero_le _⟩ (fun H locs hP hD hS => ?_)
    refine W.eq (g2 := F0 m 12 ls [.int r2.1]) rfl ?_
    refine lv_aload_n hx hb kd_I_addBlock_12 rfl (lv_at hl 0 rfl) ?_
    refine va_get (D := (dC, dI)) (ci := 2) (v := .ref (a 3)) (C := "FileTree$Inodes") (T := ft_I) (N := 2) hx hb hts fi_I hown hK hP 2 rfl rfl 0 (by decide) (hts _ q_41) (fun _ h9 => h9) rfl kd_I_addBlock_13 ?_
    obtain ⟨r3, e_r3, hF⟩ := fb_ob hF
    refine fb_callV (As := []) (rest := [.int r2.1]) ⟨hx, hb, hml, hown, hts⟩ zX_mv hZ hK hP hD hS hA (c_K_freeBlocks l dC dI dA a z r2.2 r3 e_r3) (cwV 0 hts (gd_V q_168 ko_K_freeBlocks) rfl rfl rfl kh_K_freeBlocks ⟨Nat.le_of_ble_eq_true rfl, Nat.le_of_ble_eq_true rfl⟩) 1 3 rfl rfl rfl rfl hl.1 rfl (Nat.le_of_ble_eq_true rfl) kd_I_addBlock_16 ⟨Nat.zero_le _, Nat.zero_le _⟩ (fun H locs hP hD hS => ?_)
    refine W.eq (g2 := F0 m 19 ls [.int r3.1, .int r2.1]) rfl ?_
    refine lv_icmp_le (tgt := 24) hx hb kd_I_addBlock_19 (by decide) (fun c4 => ?_) (fun c4 => ?_)
    · rw [if_pos c4] at hF
      refine lv_iload_n hx hb kd_I_addBlock_24 rfl (lv_at hl 2 rfl) ?_
      refine lv_bipush (v := 12) hx hb kd_I_addBlock_25 (by decide) ?_
      refine lv_icmp_ne (tgt := 52) hx hb kd_I_addBlock_27 (by decide) (fun c5 => ?_) (fun c5 => ?_)
      · rw [if_neg c5] at hF
        exact w_I_addBlock_52 CX o x1 x2 r3.2 hF H locs hP hD hS ls (lv_sub hl [0, 1, 2] rfl)
      · rw [if_pos c5] at hF
        refine lv_aload_n hx hb kd_I_addBlock_30 rfl (lv_at hl 0 rfl) ?_
        refine va_get (D := (dC, dI)) (ci := 2) (v := .ref (a 3)) (C := "FileTree$Inodes") (T := ft_I) (N := 2) hx hb hts fi_I hown hK hP 2 rfl rfl 0 (by decide) (hts _ q_41) (fun _ h9 => h9) rfl kd_I_addBlock_31 ?_
        refine lv_aload_n hx hb kd_I_addBlock_34 rfl (lv_at hl 0 rfl) ?_
        refine lv_iload_n hx hb kd_I_addBlock_35 rfl (lv_at hl 1 rfl) ?_
        obtain ⟨r6, e_r6, hF⟩ := fb_ob hF
        refine fb_callV (As := [.int x1]) (rest := [.ref (a 3)]) ⟨hx, hb, hml, hown, hts⟩ zX_mv hZ hK hP hD hS hA (c_I_placeOf l dC dI dA a z x1 r3.2 r6 e_r6) (cwV 1 hts (gd_V q_112 ko_I_placeOf) rfl rfl rfl kh_I_placeOf ⟨Nat.le_of_ble_eq_true rfl, Nat.le_of_ble_eq_true rfl⟩) 2 2 rfl rfl rfl rfl hl.1 rfl (Nat.le_of_ble_eq_true rfl) kd_I_addBlock_36 ⟨Nat.zero_le _, Nat.zero_le _⟩ (fun H locs hP hD hS => ?_)
        refine W.eq (g2 := F0 m 39 ls [.int r6.1, .ref (a 3)]) rfl ?_
        refine lv_bipush (v := 60) hx hb kd_I_addBlock_39 (by decide) ?_
        refine lv_iadd hx hb kd_I_addBlock_41 ?_
        refine lv_aload_n hx hb kd_I_addBlock_42 rfl (lv_at hl 0 rfl) ?_
        refine va_get (D := (dC, dI)) (ci := 2) (v := .ref (a 3)) (C := "FileTree$Inodes") (T := ft_I) (N := 2) hx hb hts fi_I hown hK hP 2 rfl rfl 0 (by decide) (hts _ q_41) (fun _ h9 => h9) rfl kd_I_addBlock_43 ?_
        obtain ⟨r7, e_r7, hF⟩ := fb_ob hF
        refine fb_callV (As := []) (rest := [.int (r6.1 + (60 : Int32)), .ref (a 3)]) ⟨hx, hb, hml, hown, hts⟩ zX_mv hZ hK hP hD hS hA (c_K_takeBlock l dC dI dA a z r6.2 r7 e_r7) (cwV 0 hts (gd_V q_179 ko_K_takeBlock) rfl rfl rfl kh_K_takeBlock ⟨Nat.le_of_ble_eq_true rfl, Nat.le_of_ble_eq_true rfl⟩) 1 3 rfl rfl rfl rfl hl.1 rfl (Nat.le_of_ble_eq_true rfl) kd_I_addBlock_46 ⟨Nat.zero_le _, Nat.zero_le _⟩ (fun H locs hP hD hS => ?_)
        refine W.eq (g2 := F0 m 49 ls [.int r7.1, .int (r6.1 + (60 : Int32)), .ref (a 3)]) rfl ?_
        obtain ⟨r8, e_r8, hF⟩ := fb_ob hF
        refine fb_callV (As := [.int (r6.1 + (60 : Int32)), .int r7.1]) (rest := []) ⟨hx, hb, hml, hown, hts⟩ zX_mv hZ hK hP hD hS hA (c_K_setNumber l dC dI dA a z (r6.1 + (60 : Int32)) r7.1 r7.2 r8 e_r8) (cwV 2 hts (gd_V q_187 ko_K_setNumber) rfl rfl rfl kh_K_setNumber ⟨Nat.le_of_ble_eq_true rfl, Nat.le_of_ble_eq_true rfl⟩) 1 3 rfl rfl rfl rfl hl.1 rfl (Nat.le_of_ble_eq_true rfl) kd_I_addBlock_49 ⟨Nat.zero_le _, Nat.zero_le _⟩ (fun H locs hP hD hS => ?_)
        refine W.eq (g2 := F0 m 52 ls []) rfl ?_
        exact w_I_addBlock_52 CX o x1 x2 r8.2 hF H locs hP hD hS ls (lv_sub hl [0, 1, 2] rfl)
    · rw [if_neg c4] at hF
      refine lv_iconst (v := 0) hx hb kd_I_addBlock_22 (by decide) ?_
      exact fb_rb (o := o) hx hb hr hlocks hK hP hD hS hF kd_I_addBlock_23
theorem c_I_addBlock (l : Launch) (dC : Nat → ClassId) (dI : Nat → Nat → Nat) (dA : Nat → ClassId) (a : Nat → Nat) (z : Nat → Nat) (x1 : Int32) (x2 : Int32) (st : fb_S) (o : Int32 × fb_S) (h : f_I_addBlock x1 x2 st = some o) : fb_M l ky_I_addBlock kw_I_addBlock rm_I_addBlock (dC, dI) vcl (tX dA) (wX dA a) (zX z) [.ref (a 2), .int x1, .int x2] (some (.int o.1)) st o.2 := fb_enter (by decide) rfl (Nat.le_of_ble_eq_true rfl) (fun p e s m below meth c A CX hP hD hS ls hl => w_I_addBlock_0 CX o x1 x2 st h s.heap [] hP hD hS ls hl)
abbrev rm_D_addEntry_z1 : Room := { frames := 4, cells := 0, slots := 0, locals := 94 }
def b_D_addEntry_z1_87 (k87 : Int32 → Int32 → fb_S → Option (Int32 × fb_S)) (x4 : Int32) (x5 : Int32) (st : fb_S) : Option (Int32 × fb_S) := (if (14 : Int32) ≤ x5 then some (0, st) else (f_D_nameByte_z1 x5 st).bind fun r2 => (f_K_setPart ((x4 + (2 : Int32)) + x5) (255 : Int32) r2.1 r2.2).bind fun r3 => k87 x4 (x5 + (1 : Int32)) r3.2)
set_option maxHeartbeats 4000000 in
set_option maxRecDepth 100000 in
theorem w_D_addEntry_z1_87 {p : Program} {l : Launch} {e : Env} {s : State} {m : MethodId} {args : Array Value} {below : List Frame} {meth : Method} {c : Code} {A : Nat → Prop} {dC : Nat → ClassId} {dI : Nat → Nat → Nat} {dA : Nat → ClassId} {a : Nat → Nat} {z : Nat → Nat} (CX : fb_C p s m args meth c kc_D_addEntry none 6 "FileTree$Directories" (dC, dI) vcl (tX dA) A (zX z)) (o : Int32 × fb_S) (k87 : Int32 → Int32 → fb_S → Option (Int32 × fb_S)) (hk87 : ∀ (x4 : Int32) (x5 : Int32) (st : fb_S), k87 x4 x5 st = some o → fb_G p l e (headSpec kw_D_addEntry rm_D_addEntry_z1).room s m args below meth c (dC, dI) vcl (tX dA) (wX dA a) A none o.2 87 6 [(0, .ref (a 1)), (2, .ref (z 1)), (4, .int x4), (5, .int x5)] [] st) (x4 : Int32) (x5 : Int32) (st : fb_S) (hF : b_D_addEntry_z1_87 k87 x4 x5 st = some o) : fb_G p l e (headSpec kw_D_addEntry rm_D_addEntry_z1).room s m args below meth c (dC, dI) vcl (tX dA) (wX dA a) A none o.2 87 6 [(0, .ref (a 1)), (2, .ref (z 1)), (4, .int x4), (5, .int x5)] [] st := by
  intro H locs hP hD hS ls hl
  obtain ⟨hx, hb, hr, hml, hown, hts, hK, hA, hlocks, hZ⟩ := id CX
  unfold b_D_addEntry_z1_87 at hF
  refine lv_iload hx hb kd_D_addEntry_87 (lv_at hl 3 rfl) ?_
  refine lv_bipush (v := 14) hx hb kd_D_addEntry_89 (by decide) ?_
  refine lv_icmp_ge (tgt := 124) hx hb kd_D_addEntry_91 (by decide) (fun c1 => ?_) (fun c1 => ?_)
  · rw [if_pos c1] at hF
    exact fb_rv (o := o) hx hb hr hlocks hK hP hD hS hF kd_D_addEntry_124
  · rw [if_neg c1] at hF
    refine lv_aload_n hx hb kd_D_addEntry_94 rfl (lv_at hl 0 rfl) ?_
    refine va_get (D := (dC, dI)) (ci := 0) (v := .ref (a 3)) (C := "FileTree$Directories") (T := ft_D) (N := 2) hx hb hts fi_D hown hK hP 1 rfl rfl 1 (by decide) (hts _ q_52) (fun _ h9 => h9) rfl kd_D_addEntry_95 ?_
    refine lv_iload hx hb kd_D_addEntry_98 (lv_at hl 2 rfl) ?_
    refine lv_iconst (v := 2) hx hb kd_D_addEntry_100 (by decide) ?_
    refine lv_iadd hx hb kd_D_addEntry_101 ?_
    refine lv_iload hx hb kd_D_addEntry_102 (lv_at hl 3 rfl) ?_
    refine lv_iadd hx hb kd_D_addEntry_104 ?_
    refine lv_sipush (v := 255) hx hb kd_D_addEntry_105 (by decide) ?_
    refine lv_aload_n hx hb kd_D_addEntry_108 rfl (lv_at hl 0 rfl) ?_
    refine lv_aload_n hx hb kd_D_addEntry_109 rfl (lv_at hl 1 rfl) ?_
    refine lv_iload hx hb kd_D_addEntry_110 (lv_at hl 3 rfl) ?_
    obtain ⟨r2, e_r2, hF⟩ := fb_ob hF
    refine fb_callV (As := [.ref (z 1), .int x5]) (rest := [.int (255 : Int32), .int ((x4 + (2 : Int32)) + x5), .ref (a 3)]) ⟨hx, hb, hml, hown, hts⟩ zX_mv hZ hK hP hD hS hA (c_D_nameByte_z1 l dC dI dA a z x5 st r2 e_r2) (cwV 2 hts (gd_V q_193 ko_D_nameByte) rfl rfl rfl kh_D_nameByte ⟨Nat.le_of_ble_eq_true rfl, Nat.le_of_ble_eq_true rfl⟩) 0 1 rfl rfl rfl rfl hl.1 rfl (Nat.le_of_ble_eq_true rfl) kd_D_addEntry_112 ⟨Nat.zero_le _, Nat.zero_le _⟩ (fun H locs hP hD hS => ?_)
    refine W.eq (g2 := F0 m 115 ls [.int r2.1, .int (255 : Int32), .int ((x4 + (2 : Int32)) + x5), .ref (a 3)]) rfl ?_
    obtain ⟨r3, e_r3, hF⟩ := fb_ob hF
    refine fb_callV (As := [.int ((x4 + (2 : Int32)) + x5), .int (255 : Int32), .int r2.1]) (rest := []) ⟨hx, hb, hml, hown, hts⟩ zX_mv hZ hK hP hD hS hA (c_K_setPart l dC dI dA a z ((x4 + (2 : Int32)) + x5) (255 : Int32) r2.1 r2.2 r3 e_r3) (cwV 3 hts (gd_V q_192 ko_K_setPart) rfl rfl rfl kh_K_setPart ⟨Nat.le_of_ble_eq_true rfl, Nat.le_of_ble_eq_true rfl⟩) 1 3 rfl rfl rfl rfl hl.1 rfl (Nat.le_of_ble_eq_true rfl) kd_D_addEntry_115 ⟨Nat.zero_le _, Nat.zero_le _⟩ (fun H locs hP hD hS => ?_)
    refine W.eq (g2 := F0 m 118 ls []) rfl ?_
    refine lv_iinc (v := x5 + (1 : Int32)) (lv' := [(5, .int (x5 + (1 : Int32))), (0, .ref (a 1)), (2, .ref (z 1)), (4, .int x4)]) hx hb kd_D_addEntry_118 hl (k := 3) rfl rfl (by decide) rfl (fun ls hl => ?_)
    refine lv_goto (tgt := 87) hx hb kd_D_addEntry_121 (by decide) ?_
    exact hk87 x4 (x5 + (1 : Int32)) r3.2 hF H locs hP hD hS ls (lv_sub hl [1, 2, 3, 0] rfl)
def l_D_addEntry_z1_87 : Nat → Int32 → Int32 → fb_S → Option (Int32 × fb_S)
  | 0 => fun _ _ _ => none
  | n + 1 => b_D_addEntry_z1_87 (l_D_addEntry_z1_87 n)
theorem v_D_addEntry_z1_87 {p : Program} {l : Launch} {e : Env} {s : State} {m : MethodId} {args : Array Value} {below : List Frame} {meth : Method} {c : Code} {A : Nat → Prop} {dC : Nat → ClassId} {dI : Nat → Nat → Nat} {dA : Nat → ClassId} {a : Nat → Nat} {z : Nat → Nat} (CX : fb_C p s m args meth c kc_D_addEntry none 6 "FileTree$Directories" (dC, dI) vcl (tX dA) A (zX z)) (o : Int32 × fb_S) (n : Nat) : ∀ (x4 : Int32) (x5 : Int32) (st : fb_S), l_D_addEntry_z1_87 n x4 x5 st = some o → fb_G p l e (headSpec kw_D_addEntry rm_D_addEntry_z1).room s m args below meth c (dC, dI) vcl (tX dA) (wX dA a) A none o.2 87 6 [(0, .ref (a 1)), (2, .ref (z 1)), (4, .int x4), (5, .int x5)] [] st := by
  induction n with
  | zero => intro x4 x5 st hF; cases hF
  | succ n ih => intro x4 x5 st hF; exact w_D_addEntry_z1_87 CX o (l_D_addEntry_z1_87 n) ih x4 x5 st hF
def b_D_addEntry_z1_72 (x3 : Int32) (x4 : Int32) (st : fb_S) : Option (Int32 × fb_S) := (f_K_setPart x4 (65535 : Int32) x3 st).bind fun r1 => l_D_addEntry_z1_87 fb_n x4 (0 : Int32) r1.2
set_option maxHeartbeats 4000000 in
set_option maxRecDepth 100000 in
theorem w_D_addEntry_z1_72 {p : Program} {l : Launch} {e : Env} {s : State} {m : MethodId} {args : Array Value} {below : List Frame} {meth : Method} {c : Code} {A : Nat → Prop} {dC : Nat → ClassId} {dI : Nat → Nat → Nat} {dA : Nat → ClassId} {a : Nat → Nat} {z : Nat → Nat} (CX : fb_C p s m args meth c kc_D_addEntry none 6 "FileTree$Directories" (dC, dI) vcl (tX dA) A (zX z)) (o : Int32 × fb_S) (x3 : Int32) (x4 : Int32) (st : fb_S) (hF : b_D_addEntry_z1_72 x3 x4 st = some o) : fb_G p l e (headSpec kw_D_addEntry rm_D_addEntry_z1).room s m args below meth c (dC, dI) vcl (tX dA) (wX dA a) A none o.2 72 6 [(0, .ref (a 1)), (2, .ref (z 1)), (3, .int x3), (4, .int x4)] [] st := by
  intro H locs hP hD hS ls hl
  obtain ⟨hx, hb, hr, hml, hown, hts, hK, hA, hlocks, hZ⟩ := id CX
  unfold b_D_addEntry_z1_72 at hF
  refine lv_aload_n hx hb kd_D_addEntry_72 rfl (lv_at hl 0 rfl) ?_
  refine va_get (D := (dC, dI)) (ci := 0) (v := .ref (a 3)) (C := "FileTree$Directories") (T := ft_D) (N := 2) hx hb hts fi_D hown hK hP 1 rfl rfl 1 (by decide) (hts _ q_52) (fun _ h9 => h9) rfl kd_D_addEntry_73 ?_
  refine lv_iload hx hb kd_D_addEntry_76 (lv_at hl 3 rfl) ?_
  refine lv_ldc (v := 65535) hx hb hown (hts _ q_158) kd_D_addEntry_78 ?_
  refine lv_iload_n hx hb kd_D_addEntry_80 rfl (lv_at hl 2 rfl) ?_
  obtain ⟨r1, e_r1, hF⟩ := fb_ob hF
  refine fb_callV (As := [.int x4, .int (65535 : Int32), .int x3]) (rest := []) ⟨hx, hb, hml, hown, hts⟩ zX_mv hZ hK hP hD hS hA (c_K_setPart l dC dI dA a z x4 (65535 : Int32) x3 st r1 e_r1) (cwV 3 hts (gd_V q_192 ko_K_setPart) rfl rfl rfl kh_K_setPart ⟨Nat.le_of_ble_eq_true rfl, Nat.le_of_ble_eq_true rfl⟩) 1 3 rfl rfl rfl rfl hl.1 rfl (Nat.le_of_ble_eq_true rfl) kd_D_addEntry_81 ⟨Nat.zero_le _, Nat.zero_le _⟩ (fun H locs hP hD hS => ?_)
  refine W.eq (g2 := F0 m 84 ls []) rfl ?_
  refine lv_iconst (v := 0) hx hb kd_D_addEntry_84 (by decide) ?_
  refine lv_istore (lv' := [(5, .int (0 : Int32)), (0, .ref (a 1)), (2, .ref (z 1)), (3, .int x3), (4, .int x4)]) hx hb kd_D_addEntry_85 hl (by decide) rfl (fun ls hl => ?_)
  exact v_D_addEntry_z1_87 CX o fb_n x4 (0 : Int32) r1.2 hF H locs hP hD hS ls (lv_sub hl [1, 2, 4, 0] rfl)
def b_D_addEntry_z1_47 (x1 : Int32) (x3 : Int32) (x5 : Int32) (st : fb_S) : Option (Int32 × fb_S) := (f_I_placeOfByte x1 x5 st).bind fun r1 => (f_I_setSize x1 (x5 + (16 : Int32)) r1.2).bind fun r2 => b_D_addEntry_z1_72 x3 r1.1 r2.2
set_option maxHeartbeats 4000000 in
set_option maxRecDepth 100000 in
theorem w_D_addEntry_z1_47 {p : Program} {l : Launch} {e : Env} {s : State} {m : MethodId} {args : Array Value} {below : List Frame} {meth : Method} {c : Code} {A : Nat → Prop} {dC : Nat → ClassId} {dI : Nat → Nat → Nat} {dA : Nat → ClassId} {a : Nat → Nat} {z : Nat → Nat} (CX : fb_C p s m args meth c kc_D_addEntry none 6 "FileTree$Directories" (dC, dI) vcl (tX dA) A (zX z)) (o : Int32 × fb_S) (x1 : Int32) (x3 : Int32) (x5 : Int32) (st : fb_S) (hF : b_D_addEntry_z1_47 x1 x3 x5 st = some o) : fb_G p l e (headSpec kw_D_addEntry rm_D_addEntry_z1).room s m args below meth c (dC, dI) vcl (tX dA) (wX dA a) A none o.2 47 6 [(0, .ref (a 1)), (1, .int x1), (2, .ref (z 1)), (3, .int x3), (5, .int x5)] [] st := by
  intro H locs hP hD hS ls hl
  obtain ⟨hx, hb, hr, hml, hown, hts, hK, hA, hlocks, hZ⟩ := id CX
  unfold b_D_addEntry_z1_47 at hF
  refine lv_aload_n hx hb kd_D_addEntry_47 rfl (lv_at hl 0 rfl) ?_
  refine va_get (D := (dC, dI)) (ci := 0) (v := .ref (a 2)) (C := "FileTree$Directories") (T := ft_D) (N := 2) hx hb hts fi_D hown hK hP 1 rfl rfl 0 (by decide) (hts _ q_50) (fun _ h9 => h9) rfl kd_D_addEntry_48 ?_
  refine lv_iload_n hx hb kd_D_addEntry_51 rfl (lv_at hl 1 rfl) ?_
  refine lv_iload hx hb kd_D_addEntry_52 (lv_at hl 4 rfl) ?_
  obtain ⟨r1, e_r1, hF⟩ := fb_ob hF
  refine fb_callV (As := [.int x1, .int x5]) (rest := []) ⟨hx, hb, hml, hown, hts⟩ zX_mv hZ hK hP hD hS hA (c_I_placeOfByte l dC dI dA a z x1 x5 st r1 e_r1) (cwV 2 hts (gd_V q_150 ko_I_placeOfByte) rfl rfl rfl kh_I_placeOfByte ⟨Nat.le_of_ble_eq_true rfl, Nat.le_of_ble_eq_true rfl⟩) 2 2 rfl rfl rfl rfl hl.1 rfl (Nat.le_of_ble_eq_true rfl) kd_D_addEntry_54 ⟨Nat.zero_le _, Nat.zero_le _⟩ (fun H locs hP hD hS => ?_)
  refine W.eq (g2 := F0 m 57 ls [.int r1.1]) rfl ?_
  refine lv_istore (lv' := [(4, .int r1.1), (0, .ref (a 1)), (1, .int x1), (2, .ref (z 1)), (3, .int x3), (5, .int x5)]) hx hb kd_D_addEntry_57 hl (by decide) rfl (fun ls hl => ?_)
  refine lv_aload_n hx hb kd_D_addEntry_59 rfl (lv_at hl 1 rfl) ?_
  refine va_get (D := (dC, dI)) (ci := 0) (v := .ref (a 2)) (C := "FileTree$Directories") (T := ft_D) (N := 2) hx hb hts fi_D hown hK hP 1 rfl rfl 0 (by decide) (hts _ q_50) (fun _ h9 => h9) rfl kd_D_addEntry_60 ?_
  refine lv_iload_n hx hb kd_D_addEntry_63 rfl (lv_at hl 2 rfl) ?_
  refine lv_iload hx hb kd_D_addEntry_64 (lv_at hl 5 rfl) ?_
  refine lv_bipush (v := 16) hx hb kd_D_addEntry_66 (by decide) ?_
  refine lv_iadd hx hb kd_D_addEntry_68 ?_
  obtain ⟨r2, e_r2, hF⟩ := fb_ob hF
  refine fb_callV (As := [.int x1, .int (x5 + (16 : Int32))]) (rest := []) ⟨hx, hb, hml, hown, hts⟩ zX_mv hZ hK hP hD hS hA (c_I_setSize l dC dI dA a z x1 (x5 + (16 : Int32)) r1.2 r2 e_r2) (cwV 2 hts (gd_V q_188 ko_I_setSize) rfl rfl rfl kh_I_setSize ⟨Nat.le_of_ble_eq_true rfl, Nat.le_of_ble_eq_true rfl⟩) 2 2 rfl rfl rfl rfl hl.1 rfl (Nat.le_of_ble_eq_true rfl) kd_D_addEntry_69 ⟨Nat.zero_le _, Nat.zero_le _⟩ (fun H locs hP hD hS => ?_)
  refine W.eq (g2 := F0 m 72 ls []) rfl ?_
  exact w_D_addEntry_z1_72 CX o x3 r1.1 r2.2 hF H locs hP hD hS ls (lv_sub hl [1, 3, 4, 0] rfl)
def f_D_addEntry_z1 (x1 : Int32) (x3 : Int32) (st : fb_S) : Option (Int32 × fb_S) := (f_D_freeEntry x1 st).bind fun r1 => (if r1.1 = (-1 : Int32) then (f_D_sizeOf x1 r1.2).bind fun r3 => (if (r3.1 - r3.1 / (1024 : Int32) * (1024 : Int32)) = (0 : Int32) then (f_I_addBlock x1 (r3.1 / (1024 : Int32)) r3.2).bind fun r5 => (if r5.1 = (0 : Int32) then some (0, r5.2) else b_D_addEntry_z1_47 x1 x3 r3.1 r5.2) else b_D_addEntry_z1_47 x1 x3 r3.1 r3.2) else b_D_addEntry_z1_72 x3 r1.1 r1.2)
set_option maxHeartbeats 4000000 in
set_option maxRecDepth 100000 in
theorem w_D_addEntry_z1_0 {p : Program} {l : Launch} {e : Env} {s : State} {m : MethodId} {args : Array Value} {below : List Frame} {meth : Method} {c : Code} {A : Nat → Prop} {dC : Nat → ClassId} {dI : Nat → Nat → Nat} {dA : Nat → ClassId} {a : Nat → Nat} {z : Nat → Nat} (CX : fb_C p s m args meth c kc_D_addEntry none 6 "FileTree$Directories" (dC, dI) vcl (tX dA) A (zX z)) (o : Int32 × fb_S) (x1 : Int32) (x3 : Int32) (st : fb_S) (hF : f_D_addEntry_z1 x1 x3 st = some o) : fb_G p l e (headSpec kw_D_addEntry rm_D_addEntry_z1).room s m args below meth c (dC, dI) vcl (tX dA) (wX dA a) A none o.2 0 6 [(0, .ref (a 1)), (1, .int x1), (2, .ref (z 1)), (3, .int x3)] [] st := by
  intro H locs hP hD hS ls hl
  obtain ⟨hx, hb, hr, hml, hown, hts, hK, hA, hlocks, hZ⟩ := id CX
  unfold f_D_addEntry_z1 at hF
  refine lv_aload_n hx hb kd_D_addEntry_0 rfl (lv_at hl 0 rfl) ?_
  refine lv_iload_n hx hb kd_D_addEntry_1 rfl (lv_at hl 1 rfl) ?_
  obtain ⟨r1, e_r1, hF⟩ := fb_ob hF
  refine fb_callV (As := [.int x1]) (rest := []) ⟨hx, hb, hml, hown, hts⟩ zX_mv hZ hK hP hD hS hA (c_D_freeEntry l dC dI dA a z x1 st r1 e_r1) (cwV 1 hts (gd_V q_129 ko_D_freeEntry) rfl rfl rfl kh_D_freeEntry ⟨Nat.le_of_ble_eq_true rfl, Nat.le_of_ble_eq_true rfl⟩) 0 1 rfl rfl rfl rfl hl.1 rfl (Nat.le_of_ble_eq_true rfl) kd_D_addEntry_2 ⟨Nat.zero_le _, Nat.zero_le _⟩ (fun H locs hP hD hS => ?_)
  refine W.eq (g2 := F0 m 5 ls [.int r1.1]) rfl ?_
  refine lv_istore (lv' := [(4, .int r1.1), (0, .ref (a 1)), (1, .int x1), (2, .ref (z 1)), (3, .int x3)]) hx hb kd_D_addEntry_5 hl (by decide) rfl (fun ls hl => ?_)
  refine lv_iload hx hb kd_D_addEntry_7 (lv_at hl 0 rfl) ?_
  refine lv_iconst (v := (-1)) hx hb kd_D_addEntry_9 (by decide) ?_
  refine lv_icmp_ne (tgt := 72) hx hb kd_D_addEntry_10 (by decide) (fun c2 => ?_) (fun c2 => ?_)
  · rw [if_neg c2] at hF
    exact w_D_addEntry_z1_72 CX o x3 r1.1 r1.2 hF H locs hP hD hS ls (lv_sub hl [1, 3, 4, 0] rfl)
  · rw [if_pos c2] at hF
    refine lv_aload_n hx hb kd_D_addEntry_13 rfl (lv_at hl 1 rfl) ?_
    refine lv_iload_n hx hb kd_D_addEntry_14 rfl (lv_at hl 2 rfl) ?_
    obtain ⟨r3, e_r3, hF⟩ := fb_ob hF
    refine fb_callV (As := [.int x1]) (rest := []) ⟨hx, hb, hml, hown, hts⟩ zX_mv hZ hK hP hD hS hA (c_D_sizeOf l dC dI dA a z x1 r1.2 r3 e_r3) (cwV 1 hts (gd_V q_133 ko_D_sizeOf) rfl rfl rfl kh_D_sizeOf ⟨Nat.le_of_ble_eq_true rfl, Nat.le_of_ble_eq_true rfl⟩) 0 1 rfl rfl rfl rfl hl.1 rfl (Nat.le_of_ble_eq_true rfl) kd_D_addEntry_15 ⟨Nat.zero_le _, Nat.zero_le _⟩ (fun H locs hP hD hS => ?_)
    refine W.eq (g2 := F0 m 18 ls [.int r3.1]) rfl ?_
    refine lv_istore (lv' := [(5, .int r3.1), (4, .int r1.1), (0, .ref (a 1)), (1, .int x1), (2, .ref (z 1)), (3, .int x3)]) hx hb kd_D_addEntry_18 hl (by decide) rfl (fun ls hl => ?_)
    refine lv_iload hx hb kd_D_addEntry_20 (lv_at hl 0 rfl) ?_
    refine lv_sipush (v := 1024) hx hb kd_D_addEntry_22 (by decide) ?_
    refine lv_irem hx hb kd_D_addEntry_25 (by decide) ?_
    refine lv_if_ne (tgt := 47) hx hb kd_D_addEntry_26 (by decide) (fun c4 => ?_) (fun c4 => ?_)
    · rw [if_neg c4] at hF
      exact w_D_addEntry_z1_47 CX o x1 x3 r3.1 r3.2 hF H locs hP hD hS ls (lv_sub hl [2, 3, 4, 5, 0] rfl)
    · rw [if_pos c4] at hF
      refine lv_aload_n hx hb kd_D_addEntry_29 rfl (lv_at hl 2 rfl) ?_
      refine va_get (D := (dC, dI)) (ci := 0) (v := .ref (a 2)) (C := "FileTree$Directories") (T := ft_D) (N := 2) hx hb hts fi_D hown hK hP 1 rfl rfl 0 (by decide) (hts _ q_50) (fun _ h9 => h9) rfl kd_D_addEntry_30 ?_
      refine lv_iload_n hx hb kd_D_addEntry_33 rfl (lv_at hl 3 rfl) ?_
      refine lv_iload hx hb kd_D_addEntry_34 (lv_at hl 0 rfl) ?_
      refine lv_sipush (v := 1024) hx hb kd_D_addEntry_36 (by decide) ?_
      refine lv_idiv hx hb kd_D_addEntry_39 (by decide) ?_
      obtain ⟨r5, e_r5, hF⟩ := fb_ob hF
      refine fb_callV (As := [.int x1, .int (r3.1 / (1024 : Int32))]) (rest := []) ⟨hx, hb, hml, hown, hts⟩ zX_mv hZ hK hP hD hS hA (c_I_addBlock l dC dI dA a z x1 (r3.1 / (1024 : Int32)) r3.2 r5 e_r5) (cwV 2 hts (gd_V q_160 ko_I_addBlock) rfl rfl rfl kh_I_addBlock ⟨Nat.le_of_ble_eq_true rfl, Nat.le_of_ble_eq_true rfl⟩) 2 2 rfl rfl rfl rfl hl.1 rfl (Nat.le_of_ble_eq_true rfl) kd_D_addEntry_40 ⟨Nat.zero_le _, Nat.zero_le _⟩ (fun H locs hP hD hS => ?_)
      refine W.eq (g2 := F0 m 43 ls [.int r5.1]) rfl ?_
      refine lv_if_ne (tgt := 47) hx hb kd_D_addEntry_43 (by decide) (fun c6 => ?_) (fun c6 => ?_)
      · rw [if_neg c6] at hF
        exact w_D_addEntry_z1_47 CX o x1 x3 r3.1 r5.2 hF H locs hP hD hS ls (lv_sub hl [2, 3, 4, 5, 0] rfl)
      · rw [if_pos c6] at hF
        exact fb_rv (o := o) hx hb hr hlocks hK hP hD hS hF kd_D_addEntry_46
theorem c_D_addEntry_z1 (l : Launch) (dC : Nat → ClassId) (dI : Nat → Nat → Nat) (dA : Nat → ClassId) (a : Nat → Nat) (z : Nat → Nat) (x1 : Int32) (x3 : Int32) (st : fb_S) (o : Int32 × fb_S) (h : f_D_addEntry_z1 x1 x3 st = some o) : fb_M l ky_D_addEntry kw_D_addEntry rm_D_addEntry_z1 (dC, dI) vcl (tX dA) (wX dA a) (zX z) [.ref (a 1), .int x1, .ref (z 1), .int x3] none st o.2 := fb_enter (by decide) rfl (Nat.le_of_ble_eq_true rfl) (fun p e s m below meth c A CX hP hD hS ls hl => w_D_addEntry_z1_0 CX o x1 x3 st h s.heap [] hP hD hS ls hl)
abbrev rm_D_nameByte_z2 : Room := { frames := 0, cells := 0, slots := 0, locals := 0 }
def f_D_nameByte_z2 (x2 : Int32) (st : fb_S) : Option (Int32 × fb_S) := (if x2 < (0 : Int32) then some ((0 : Int32), st) else (if (2 : Int32) ≤ x2 then some ((0 : Int32), st) else (fb_ld (zf_2) 2 x2).bind fun v3 => some (v3 &&& (255 : Int32), st)))
set_option maxHeartbeats 4000000 in
set_option maxRecDepth 100000 in
theorem w_D_nameByte_z2_0 {p : Program} {l : Launch} {e : Env} {s : State} {m : MethodId} {args : Array Value} {below : List Frame} {meth : Method} {c : Code} {A : Nat → Prop} {dC : Nat → ClassId} {dI : Nat → Nat → Nat} {dA : Nat → ClassId} {a : Nat → Nat} {z : Nat → Nat} (CX : fb_C p s m args meth c kc_D_nameByte (some .int) 3 "FileTree$Directories" (dC, dI) vcl (tX dA) A (zX z)) (o : Int32 × fb_S) (x2 : Int32) (st : fb_S) (hF : f_D_nameByte_z2 x2 st = some o) : fb_G p l e (headSpec kw_D_nameByte rm_D_nameByte_z2).room s m args below meth c (dC, dI) vcl (tX dA) (wX dA a) A (some (.int o.1)) o.2 0 3 [(0, .ref (a 1)), (1, .ref (z 2)), (2, .int x2)] [] st := by
  intro H locs hP hD hS ls hl
  obtain ⟨hx, hb, hr, hml, hown, hts, hK, hA, hlocks, hZ⟩ := id CX
  unfold f_D_nameByte_z2 at hF
  refine lv_iload_n hx hb kd_D_nameByte_0 rfl (lv_at hl 2 rfl) ?_
  refine lv_if_lt (tgt := 20) hx hb kd_D_nameByte_1 (by decide) (fun c1 => ?_) (fun c1 => ?_)
  · rw [if_pos c1] at hF
    refine lv_iconst (v := 0) hx hb kd_D_nameByte_20 (by decide) ?_
    exact fb_ri (o := o) hx hb hr hlocks hK hP hD hS hF kd_D_nameByte_21
  · rw [if_neg c1] at hF
    refine lv_iload_n hx hb kd_D_nameByte_4 rfl (lv_at hl 2 rfl) ?_
    refine lv_aload_n hx hb kd_D_nameByte_5 rfl (lv_at hl 1 rfl) ?_
    refine va_tlen (v := 2) hx hb hZ.2.2.2.2.2.1 hS rfl kd_D_nameByte_6 ?_
    refine lv_icmp_ge (tgt := 20) hx hb kd_D_nameByte_7 (by decide) (fun c2 => ?_) (fun c2 => ?_)
    · rw [if_pos c2] at hF
      refine lv_iconst (v := 0) hx hb kd_D_nameByte_20 (by decide) ?_
      exact fb_ri (o := o) hx hb hr hlocks hK hP hD hS hF kd_D_nameByte_21
    · rw [if_neg c2] at hF
      refine lv_aload_n hx hb kd_D_nameByte_10 rfl (lv_at hl 1 rfl) ?_
      refine lv_iload_n hx hb kd_D_nameByte_11 rfl (lv_at hl 2 rfl) ?_
      obtain ⟨v3, e_v3, hF⟩ := fb_ob hF
      refine fb_tb hx hb hZ.2.2.2.2.2.1 hS e_v3 kd_D_nameByte_12 ?_
      refine lv_sipush (v := 255) hx hb kd_D_nameByte_13 (by decide) ?_
      refine lv_iand hx hb kd_D_nameByte_16 ?_
      refine lv_goto (tgt := 21) hx hb kd_D_nameByte_17 (by decide) ?_
      exact fb_ri (o := o) hx hb hr hlocks hK hP hD hS hF kd_D_nameByte_21
theorem c_D_nameByte_z2 (l : Launch) (dC : Nat → ClassId) (dI : Nat → Nat → Nat) (dA : Nat → ClassId) (a : Nat → Nat) (z : Nat → Nat) (x2 : Int32) (st : fb_S) (o : Int32 × fb_S) (h : f_D_nameByte_z2 x2 st = some o) : fb_M l ky_D_nameByte kw_D_nameByte rm_D_nameByte_z2 (dC, dI) vcl (tX dA) (wX dA a) (zX z) [.ref (a 1), .ref (z 2), .int x2] (some (.int o.1)) st o.2 := fb_enter (by decide) rfl (Nat.le_of_ble_eq_true rfl) (fun p e s m below meth c A CX hP hD hS ls hl => w_D_nameByte_z2_0 CX o x2 st h s.heap [] hP hD hS ls hl)
abbrev rm_D_addEntry_z2 : Room := { frames := 4, cells := 0, slots := 0, locals := 94 }
def b_D_addEntry_z2_87 (k87 : Int32 → Int32 → fb_S → Option (Int32 × fb_S)) (x4 : Int32) (x5 : Int32) (st : fb_S) : Option (Int32 × fb_S) := (if (14 : Int32) ≤ x5 then some (0, st) else (f_D_nameByte_z2 x5 st).bind fun r2 => (f_K_setPart ((x4 + (2 : Int32)) + x5) (255 : Int32) r2.1 r2.2).bind fun r3 => k87 x4 (x5 + (1 : Int32)) r3.2)
set_option maxHeartbeats 4000000 in
set_option maxRecDepth 100000 in
theorem w_D_addEntry_z2_87 {p : Program} {l : Launch} {e : Env} {s : State} {m : MethodId} {args : Array Value} {below : List Frame} {meth : Method} {c : Code} {A : Nat → Prop} {dC : Nat → ClassId} {dI : Nat → Nat → Nat} {dA : Nat → ClassId} {a : Nat → Nat} {z : Nat → Nat} (CX : fb_C p s m args meth c kc_D_addEntry none 6 "FileTree$Directories" (dC, dI) vcl (tX dA) A (zX z)) (o : Int32 × fb_S) (k87 : Int32 → Int32 → fb_S → Option (Int32 × fb_S)) (hk87 : ∀ (x4 : Int32) (x5 : Int32) (st : fb_S), k87 x4 x5 st = some o → fb_G p l e (headSpec kw_D_addEntry rm_D_addEntry_z2).room s m args below meth c (dC, dI) vcl (tX dA) (wX dA a) A none o.2 87 6 [(0, .ref (a 1)), (2, .ref (z 2)), (4, .int x4), (5, .int x5)] [] st) (x4 : Int32) (x5 : Int32) (st : fb_S) (hF : b_D_addEntry_z2_87 k87 x4 x5 st = some o) : fb_G p l e (headSpec kw_D_addEntry rm_D_addEntry_z2).room s m args below meth c (dC, dI) vcl (tX dA) (wX dA a) A none o.2 87 6 [(0, .ref (a 1)), (2, .ref (z 2)), (4, .int x4), (5, .int x5)] [] st := by
  intro H locs hP hD hS ls hl
  obtain ⟨hx, hb, hr, hml, hown, hts, hK, hA, hlocks, hZ⟩ := id CX
  unfold b_D_addEntry_z2_87 at hF
  refine lv_iload hx hb kd_D_addEntry_87 (lv_at hl 3 rfl) ?_
  refine lv_bipush (v := 14) hx hb kd_D_addEntry_89 (by decide) ?_
  refine lv_icmp_ge (tgt := 124) hx hb kd_D_addEntry_91 (by decide) (fun c1 => ?_) (fun c1 => ?_)
  · rw [if_pos c1] at hF
    exact fb_rv (o := o) hx hb hr hlocks hK hP hD hS hF kd_D_addEntry_124
  · rw [if_neg c1] at hF
    refine lv_aload_n hx hb kd_D_addEntry_94 rfl (lv_at hl 0 rfl) ?_
    refine va_get (D := (dC, dI)) (ci := 0) (v := .ref (a 3)) (C := "FileTree$Directories") (T := ft_D) (N := 2) hx hb hts fi_D hown hK hP 1 rfl rfl 1 (by decide) (hts _ q_52) (fun _ h9 => h9) rfl kd_D_addEntry_95 ?_
    refine lv_iload hx hb kd_D_addEntry_98 (lv_at hl 2 rfl) ?_
    refine lv_iconst (v := 2) hx hb kd_D_addEntry_100 (by decide) ?_
    refine lv_iadd hx hb kd_D_addEntry_101 ?_
    refine lv_iload hx hb kd_D_addEntry_102 (lv_at hl 3 rfl) ?_
    refine lv_iadd hx hb kd_D_addEntry_104 ?_
    refine lv_sipush (v := 255) hx hb kd_D_addEntry_105 (by decide) ?_
    refine lv_aload_n hx hb kd_D_addEntry_108 rfl (lv_at hl 0 rfl) ?_
    refine lv_aload_n hx hb kd_D_addEntry_109 rfl (lv_at hl 1 rfl) ?_
    refine lv_iload hx hb kd_D_addEntry_110 (lv_at hl 3 rfl) ?_
    obtain ⟨r2, e_r2, hF⟩ := fb_ob hF
    refine fb_callV (As := [.ref (z 2), .int x5]) (rest := [.int (255 : Int32), .int ((x4 + (2 : Int32)) + x5), .ref (a 3)]) ⟨hx, hb, hml, hown, hts⟩ zX_mv hZ hK hP hD hS hA (c_D_nameByte_z2 l dC dI dA a z x5 st r2 e_r2) (cwV 2 hts (gd_V q_193 ko_D_nameByte) rfl rfl rfl kh_D_nameByte ⟨Nat.le_of_ble_eq_true rfl, Nat.le_of_ble_eq_true rfl⟩) 0 1 rfl rfl rfl rfl hl.1 rfl (Nat.le_of_ble_eq_true rfl) kd_D_addEntry_112 ⟨Nat.zero_le _, Nat.zero_le _⟩ (fun H locs hP hD hS => ?_)
    refine W.eq (g2 := F0 m 115 ls [.int r2.1, .int (255 : Int32), .int ((x4 + (2 : Int32)) + x5), .ref (a 3)]) rfl ?_
    obtain ⟨r3, e_r3, hF⟩ := fb_ob hF
    refine fb_callV (As := [.int ((x4 + (2 : Int32)) + x5), .int (255 : Int32), .int r2.1]) (rest := []) ⟨hx, hb, hml, hown, hts⟩ zX_mv hZ hK hP hD hS hA (c_K_setPart l dC dI dA a z ((x4 + (2 : Int32)) + x5) (255 : Int32) r2.1 r2.2 r3 e_r3) (cwV 3 hts (gd_V q_192 ko_K_setPart) rfl rfl rfl kh_K_setPart ⟨Nat.le_of_ble_eq_true rfl, Nat.le_of_ble_eq_true rfl⟩) 1 3 rfl rfl rfl rfl hl.1 rfl (Nat.le_of_ble_eq_true rfl) kd_D_addEntry_115 ⟨Nat.zero_le _, Nat.zero_le _⟩ (fun H locs hP hD hS => ?_)
    refine W.eq (g2 := F0 m 118 ls []) rfl ?_
    refine lv_iinc (v := x5 + (1 : Int32)) (lv' := [(5, .int (x5 + (1 : Int32))), (0, .ref (a 1)), (2, .ref (z 2)), (4, .int x4)]) hx hb kd_D_addEntry_118 hl (k := 3) rfl rfl (by decide) rfl (fun ls hl => ?_)
    refine lv_goto (tgt := 87) hx hb kd_D_addEntry_121 (by decide) ?_
    exact hk87 x4 (x5 + (1 : Int32)) r3.2 hF H locs hP hD hS ls (lv_sub hl [1, 2, 3, 0] rfl)
def l_D_addEntry_z2_87 : Nat → Int32 → Int32 → fb_S → Option (Int32 × fb_S)
  | 0 => fun _ _ _ => none
  | n + 1 => b_D_addEntry_z2_87 (l_D_addEntry_z2_87 n)
theorem v_D_addEntry_z2_87 {p : Program} {l : Launch} {e : Env} {s : State} {m : MethodId} {args : Array Value} {below : List Frame} {meth : Method} {c : Code} {A : Nat → Prop} {dC : Nat → ClassId} {dI : Nat → Nat → Nat} {dA : Nat → ClassId} {a : Nat → Nat} {z : Nat → Nat} (CX : fb_C p s m args meth c kc_D_addEntry none 6 "FileTree$Directories" (dC, dI) vcl (tX dA) A (zX z)) (o : Int32 × fb_S) (n : Nat) : ∀ (x4 : Int32) (x5 : Int32) (st : fb_S), l_D_addEntry_z2_87 n x4 x5 st = some o → fb_G p l e (headSpec kw_D_addEntry rm_D_addEntry_z2).room s m args below meth c (dC, dI) vcl (tX dA) (wX dA a) A none o.2 87 6 [(0, .ref (a 1)), (2, .ref (z 2)), (4, .int x4), (5, .int x5)] [] st := by
  induction n with
  | zero => intro x4 x5 st hF; cases hF
  | succ n ih => intro x4 x5 st hF; exact w_D_addEntry_z2_87 CX o (l_D_addEntry_z2_87 n) ih x4 x5 st hF
def b_D_addEntry_z2_72 (x3 : Int32) (x4 : Int32) (st : fb_S) : Option (Int32 × fb_S) := (f_K_setPart x4 (65535 : Int32) x3 st).bind fun r1 => l_D_addEntry_z2_87 fb_n x4 (0 : Int32) r1.2
set_option maxHeartbeats 4000000 in
set_option maxRecDepth 100000 in
theorem w_D_addEntry_z2_72 {p : Program} {l : Launch} {e : Env} {s : State} {m : MethodId} {args : Array Value} {below : List Frame} {meth : Method} {c : Code} {A : Nat → Prop} {dC : Nat → ClassId} {dI : Nat → Nat → Nat} {dA : Nat → ClassId} {a : Nat → Nat} {z : Nat → Nat} (CX : fb_C p s m args meth c kc_D_addEntry none 6 "FileTree$Directories" (dC, dI) vcl (tX dA) A (zX z)) (o : Int32 × fb_S) (x3 : Int32) (x4 : Int32) (st : fb_S) (hF : b_D_addEntry_z2_72 x3 x4 st = some o) : fb_G p l e (headSpec kw_D_addEntry rm_D_addEntry_z2).room s m args below meth c (dC, dI) vcl (tX dA) (wX dA a) A none o.2 72 6 [(0, .ref (a 1)), (2, .ref (z 2)), (3, .int x3), (4, .int x4)] [] st := by
  intro H locs hP hD hS ls hl
  obtain ⟨hx, hb, hr, hml, hown, hts, hK, hA, hlocks, hZ⟩ := id CX
  unfold b_D_addEntry_z2_72 at hF
  refine lv_aload_n hx hb kd_D_addEntry_72 rfl (lv_at hl 0 rfl) ?_
  refine va_get (D := (dC, dI)) (ci := 0) (v := .ref (a 3)) (C := "FileTree$Directories") (T := ft_D) (N := 2) hx hb hts fi_D hown hK hP 1 rfl rfl 1 (by decide) (hts _ q_52) (fun _ h9 => h9) rfl kd_D_addEntry_73 ?_
  refine lv_iload hx hb kd_D_addEntry_76 (lv_at hl 3 rfl) ?_
  refine lv_ldc (v := 65535) hx hb hown (hts _ q_158) kd_D_addEntry_78 ?_
  refine lv_iload_n hx hb kd_D_addEntry_80 rfl (lv_at hl 2 rfl) ?_
  obtain ⟨r1, e_r1, hF⟩ := fb_ob hF
  refine fb_callV (As := [.int x4, .int (65535 : Int32), .int x3]) (rest := []) ⟨hx, hb, hml, hown, hts⟩ zX_mv hZ hK hP hD hS hA (c_K_setPart l dC dI dA a z x4 (65535 : Int32) x3 st r1 e_r1) (cwV 3 hts (gd_V q_192 ko_K_setPart) rfl rfl rfl kh_K_setPart ⟨Nat.le_of_ble_eq_true rfl, Nat.le_of_ble_eq_true rfl⟩) 1 3 rfl rfl rfl rfl hl.1 rfl (Nat.le_of_ble_eq_true rfl) kd_D_addEntry_81 ⟨Nat.zero_le _, Nat.zero_le _⟩ (fun H locs hP hD hS => ?_)
  refine W.eq (g2 := F0 m 84 ls []) rfl ?_
  refine lv_iconst (v := 0) hx hb kd_D_addEntry_84 (by decide) ?_
  refine lv_istore (lv' := [(5, .int (0 : Int32)), (0, .ref (a 1)), (2, .ref (z 2)), (3, .int x3), (4, .int x4)]) hx hb kd_D_addEntry_85 hl (by decide) rfl (fun ls hl => ?_)
  exact v_D_addEntry_z2_87 CX o fb_n x4 (0 : Int32) r1.2 hF H locs hP hD hS ls (lv_sub hl [1, 2, 4, 0] rfl)
def b_D_addEntry_z2_47 (x1 : Int32) (x3 : Int32) (x5 : Int32) (st : fb_S) : Option (Int32 × fb_S) := (f_I_placeOfByte x1 x5 st).bind fun r1 => (f_I_setSize x1 (x5 + (16 : Int32)) r1.2).bind fun r2 => b_D_addEntry_z2_72 x3 r1.1 r2.2
set_option maxHeartbeats 4000000 in
set_option maxRecDepth 100000 in
theorem w_D_addEntry_z2_47 {p : Program} {l : Launch} {e : Env} {s : State} {m : MethodId} {args : Array Value} {below : List Frame} {meth : Method} {c : Code} {A : Nat → Prop} {dC : Nat → ClassId} {dI : Nat → Nat → Nat} {dA : Nat → ClassId} {a : Nat → Nat} {z : Nat → Nat} (CX : fb_C p s m args meth c kc_D_addEntry none 6 "FileTree$Directories" (dC, dI) vcl (tX dA) A (zX z)) (o : Int32 × fb_S) (x1 : Int32) (x3 : Int32) (x5 : Int32) (st : fb_S) (hF : b_D_addEntry_z2_47 x1 x3 x5 st = some o) : fb_G p l e (headSpec kw_D_addEntry rm_D_addEntry_z2).room s m args below meth c (dC, dI) vcl (tX dA) (wX dA a) A none o.2 47 6 [(0, .ref (a 1)), (1, .int x1), (2, .ref (z 2)), (3, .int x3), (5, .int x5)] [] st := by
  intro H locs hP hD hS ls hl
  obtain ⟨hx, hb, hr, hml, hown, hts, hK, hA, hlocks, hZ⟩ := id CX
  unfold b_D_addEntry_z2_47 at hF
  refine lv_aload_n hx hb kd_D_addEntry_47 rfl (lv_at hl 0 rfl) ?_
  refine va_get (D := (dC, dI)) (ci := 0) (v := .ref (a 2)) (C := "FileTree$Directories") (T := ft_D) (N := 2) hx hb hts fi_D hown hK hP 1 rfl rfl 0 (by decide) (hts _ q_50) (fun _ h9 => h9) rfl kd_D_addEntry_48 ?_
  refine lv_iload_n hx hb kd_D_addEntry_51 rfl (lv_at hl 1 rfl) ?_
  refine lv_iload hx hb kd_D_addEntry_52 (lv_at hl 4 rfl) ?_
  obtain ⟨r1, e_r1, hF⟩ := fb_ob hF
  refine fb_callV (As := [.int x1, .int x5]) (rest := []) ⟨hx, hb, hml, hown, hts⟩ zX_mv hZ hK hP hD hS hA (c_I_placeOfByte l dC dI dA a z x1 x5 st r1 e_r1) (cwV 2 hts (gd_V q_150 ko_I_placeOfByte) rfl rfl rfl kh_I_placeOfByte ⟨Nat.le_of_ble_eq_true rfl, Nat.le_of_ble_eq_true rfl⟩) 2 2 rfl rfl rfl rfl hl.1 rfl (Nat.le_of_ble_eq_true rfl) kd_D_addEntry_54 ⟨Nat.zero_le _, Nat.zero_le _⟩ (fun H locs hP hD hS => ?_)
  refine W.eq (g2 := F0 m 57 ls [.int r1.1]) rfl ?_
  refine lv_istore (lv' := [(4, .int r1.1), (0, .ref (a 1)), (1, .int x1), (2, .ref (z 2)), (3, .int x3), (5, .int x5)]) hx hb kd_D_addEntry_57 hl (by decide) rfl (fun ls hl => ?_)
  refine lv_aload_n hx hb kd_D_addEntry_59 rfl (lv_at hl 1 rfl) ?_
  refine va_get (D := (dC, dI)) (ci := 0) (v := .ref (a 2)) (C := "FileTree$Directories") (T := ft_D) (N := 2) hx hb hts fi_D hown hK hP 1 rfl rfl 0 (by decide) (hts _ q_50) (fun _ h9 => h9) rfl kd_D_addEntry_60 ?_
  refine lv_iload_n hx hb kd_D_addEntry_63 rfl (lv_at hl 2 rfl) ?_
  refine lv_iload hx hb kd_D_addEntry_64 (lv_at hl 5 rfl) ?_
  refine lv_bipush (v := 16) hx hb kd_D_addEntry_66 (by decide) ?_
  refine lv_iadd hx hb kd_D_addEntry_68 ?_
  obtain ⟨r2, e_r2, hF⟩ := fb_ob hF
  refine fb_callV (As := [.int x1, .int (x5 + (16 : Int32))]) (rest := []) ⟨hx, hb, hml, hown, hts⟩ zX_mv hZ hK hP hD hS hA (c_I_setSize l dC dI dA a z x1 (x5 + (16 : Int32)) r1.2 r2 e_r2) (cwV 2 hts (gd_V q_188 ko_I_setSize) rfl rfl rfl kh_I_setSize ⟨Nat.le_of_ble_eq_true rfl, Nat.le_of_ble_eq_true rfl⟩) 2 2 rfl rfl rfl rfl hl.1 rfl (Nat.le_of_ble_eq_true rfl) kd_D_addEntry_69 ⟨Nat.zero_le _, Nat.zero_le _⟩ (fun H locs hP hD hS => ?_)
  refine W.eq (g2 := F0 m 72 ls []) rfl ?_
  exact w_D_addEntry_z2_72 CX o x3 r1.1 r2.2 hF H locs hP hD hS ls (lv_sub hl [1, 3, 4, 0] rfl)
def f_D_addEntry_z2 (x1 : Int32) (x3 : Int32) (st : fb_S) : Option (Int32 × fb_S) := (f_D_freeEntry x1 st).bind fun r1 => (if r1.1 = (-1 : Int32) then (f_D_sizeOf x1 r1.2).bind fun r3 => (if (r3.1 - r3.1 / (1024 : Int32) * (1024 : Int32)) = (0 : Int32) then (f_I_addBlock x1 (r3.1 / (1024 : Int32)) r3.2).bind fun r5 => (if r5.1 = (0 : Int32) then some (0, r5.2) else b_D_addEntry_z2_47 x1 x3 r3.1 r5.2) else b_D_addEntry_z2_47 x1 x3 r3.1 r3.2) else b_D_addEntry_z2_72 x3 r1.1 r1.2)
set_option maxHeartbeats 4000000 in
set_option maxRecDepth 100000 in
theorem w_D_addEntry_z2_0 {p : Program} {l : Launch} {e : Env} {s : State} {m : MethodId} {args : Array Value} {below : List Frame} {meth : Method} {c : Code} {A : Nat → Prop} {dC : Nat → ClassId} {dI : Nat → Nat → Nat} {dA : Nat → ClassId} {a : Nat → Nat} {z : Nat → Nat} (CX : fb_C p s m args meth c kc_D_addEntry none 6 "FileTree$Directories" (dC, dI) vcl (tX dA) A (zX z)) (o : Int32 × fb_S) (x1 : Int32) (x3 : Int32) (st : fb_S) (hF : f_D_addEntry_z2 x1 x3 st = some o) : fb_G p l e (headSpec kw_D_addEntry rm_D_addEntry_z2).room s m args below meth c (dC, dI) vcl (tX dA) (wX dA a) A none o.2 0 6 [(0, .ref (a 1)), (1, .int x1), (2, .ref (z 2)), (3, .int x3)] [] st := by
  intro H locs hP hD hS ls hl
  obtain ⟨hx, hb, hr, hml, hown, hts, hK, hA, hlocks, hZ⟩ := id CX
  unfold f_D_addEntry_z2 at hF
  refine lv_aload_n hx hb kd_D_addEntry_0 rfl (lv_at hl 0 rfl) ?_
  refine lv_iload_n hx hb kd_D_addEntry_1 rfl (lv_at hl 1 rfl) ?_
  obtain ⟨r1, e_r1, hF⟩ := fb_ob hF
  refine fb_callV (As := [.int x1]) (rest := []) ⟨hx, hb, hml, hown, hts⟩ zX_mv hZ hK hP hD hS hA (c_D_freeEntry l dC dI dA a z x1 st r1 e_r1) (cwV 1 hts (gd_V q_129 ko_D_freeEntry) rfl rfl rfl kh_D_freeEntry ⟨Nat.le_of_ble_eq_true rfl, Nat.le_of_ble_eq_true rfl⟩) 0 1 rfl rfl rfl rfl hl.1 rfl (Nat.le_of_ble_eq_true rfl) kd_D_addEntry_2 ⟨Nat.zero_le _, Nat.zero_le _⟩ (fun H locs hP hD hS => ?_)
  refine W.eq (g2 := F0 m 5 ls [.int r1.1]) rfl ?_
  refine lv_istore (lv' := [(4, .int r1.1), (0, .ref (a 1)), (1, .int x1), (2, .ref (z 2)), (3, .int x3)]) hx hb kd_D_addEntry_5 hl (by decide) rfl (fun ls hl => ?_)
  refine lv_iload hx hb kd_D_addEntry_7 (lv_at hl 0 rfl) ?_
  refine lv_iconst (v := (-1)) hx hb kd_D_addEntry_9 (by decide) ?_
  refine lv_icmp_ne (tgt := 72) hx hb kd_D_addEntry_10 (by decide) (fun c2 => ?_) (fun c2 => ?_)
  · rw [if_neg c2] at hF
    exact w_D_addEntry_z2_72 CX o x3 r1.1 r1.2 hF H locs hP hD hS ls (lv_sub hl [1, 3, 4, 0] rfl)
  · rw [if_pos c2] at hF
    refine lv_aload_n hx hb kd_D_addEntry_13 rfl (lv_at hl 1 rfl) ?_
    refine lv_iload_n hx hb kd_D_addEntry_14 rfl (lv_at hl 2 rfl) ?_
    obtain ⟨r3, e_r3, hF⟩ := fb_ob hF
    refine fb_callV (As := [.int x1]) (rest := []) ⟨hx, hb, hml, hown, hts⟩ zX_mv hZ hK hP hD hS hA (c_D_sizeOf l dC dI dA a z x1 r1.2 r3 e_r3) (cwV 1 hts (gd_V q_133 ko_D_sizeOf) rfl rfl rfl kh_D_sizeOf ⟨Nat.le_of_ble_eq_true rfl, Nat.le_of_ble_eq_true rfl⟩) 0 1 rfl rfl rfl rfl hl.1 rfl (Nat.le_of_ble_eq_true rfl) kd_D_addEntry_15 ⟨Nat.zero_le _, Nat.zero_le _⟩ (fun H locs hP hD hS => ?_)
    refine W.eq (g2 := F0 m 18 ls [.int r3.1]) rfl ?_
    refine lv_istore (lv' := [(5, .int r3.1), (4, .int r1.1), (0, .ref (a 1)), (1, .int x1), (2, .ref (z 2)), (3, .int x3)]) hx hb kd_D_addEntry_18 hl (by decide) rfl (fun ls hl => ?_)
    refine lv_iload hx hb kd_D_addEntry_20 (lv_at hl 0 rfl) ?_
    refine lv_sipush (v := 1024) hx hb kd_D_addEntry_22 (by decide) ?_
    refine lv_irem hx hb kd_D_addEntry_25 (by decide) ?_
    refine lv_if_ne (tgt := 47) hx hb kd_D_addEntry_26 (by decide) (fun c4 => ?_) (fun c4 => ?_)
    · rw [if_neg c4] at hF
      exact w_D_addEntry_z2_47 CX o x1 x3 r3.1 r3.2 hF H locs hP hD hS ls (lv_sub hl [2, 3, 4, 5, 0] rfl)
    · rw [if_pos c4] at hF
      refine lv_aload_n hx hb kd_D_addEntry_29 rfl (lv_at hl 2 rfl) ?_
      refine va_get (D := (dC, dI)) (ci := 0) (v := .ref (a 2)) (C := "FileTree$Directories") (T := ft_D) (N := 2) hx hb hts fi_D hown hK hP 1 rfl rfl 0 (by decide) (hts _ q_50) (fun _ h9 => h9) rfl kd_D_addEntry_30 ?_
      refine lv_iload_n hx hb kd_D_addEntry_33 rfl (lv_at hl 3 rfl) ?_
      refine lv_iload hx hb kd_D_addEntry_34 (lv_at hl 0 rfl) ?_
      refine lv_sipush (v := 1024) hx hb kd_D_addEntry_36 (by decide) ?_
      refine lv_idiv hx hb kd_D_addEntry_39 (by decide) ?_
      obtain ⟨r5, e_r5, hF⟩ := fb_ob hF
      refine fb_callV (As := [.int x1, .int (r3.1 / (1024 : Int32))]) (rest := []) ⟨hx, hb, hml, hown, hts⟩ zX_mv hZ hK hP hD hS hA (c_I_addBlock l dC dI dA a z x1 (r3.1 / (1024 : Int32)) r3.2 r5 e_r5) (cwV 2 hts (gd_V q_160 ko_I_addBlock) rfl rfl rfl kh_I_addBlock ⟨Nat.le_of_ble_eq_true rfl, Nat.le_of_ble_eq_true rfl⟩) 2 2 rfl rfl rfl rfl hl.1 rfl (Nat.le_of_ble_eq_true rfl) kd_D_addEntry_40 ⟨Nat.zero_le _, Nat.zero_le _⟩ (fun H locs hP hD hS => ?_)
      refine W.eq (g2 := F0 m 43 ls [.int r5.1]) rfl ?_
      refine lv_if_ne (tgt := 47) hx hb kd_D_addEntry_43 (by decide) (fun c6 => ?_) (fun c6 => ?_)
      · rw [if_neg c6] at hF
        exact w_D_addEntry_z2_47 CX o x1 x3 r3.1 r5.2 hF H locs hP hD hS ls (lv_sub hl [2, 3, 4, 5, 0] rfl)
      · rw [if_pos c6] at hF
        exact fb_rv (o := o) hx hb hr hlocks hK hP hD hS hF kd_D_addEntry_46
theorem c_D_addEntry_z2 (l : Launch) (dC : Nat → ClassId) (dI : Nat → Nat → Nat) (dA : Nat → ClassId) (a : Nat → Nat) (z : Nat → Nat) (x1 : Int32) (x3 : Int32) (st : fb_S) (o : Int32 × fb_S) (h : f_D_addEntry_z2 x1 x3 st = some o) : fb_M l ky_D_addEntry kw_D_addEntry rm_D_addEntry_z2 (dC, dI) vcl (tX dA) (wX dA a) (zX z) [.ref (a 1), .int x1, .ref (z 2), .int x3] none st o.2 := fb_enter (by decide) rfl (Nat.le_of_ble_eq_true rfl) (fun p e s m below meth c A CX hP hD hS ls hl => w_D_addEntry_z2_0 CX o x1 x3 st h s.heap [] hP hD hS ls hl)
