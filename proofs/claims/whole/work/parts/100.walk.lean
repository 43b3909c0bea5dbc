abbrev rm_K_partAt : Room := { frames := 0, cells := 0, slots := 0, locals := 0 }
def f_K_partAt (x1 : Int32) (x2 : Int32) (st : fb_S) : Option (Int32 × fb_S) := (if (x1 >>> ((2 : Int32) &&& 31)) < (0 : Int32) then some ((0 : Int32), st) else (if (131072 : Int32) ≤ (x1 >>> ((2 : Int32) &&& 31)) then some ((0 : Int32), st) else (fb_ld (st 0) 131072 (x1 >>> ((2 : Int32) &&& 31))).bind fun v3 => some ((fb_us v3 ((x1 &&& (3 : Int32)) <<< ((3 : Int32) &&& 31))) &&& x2, st)))
set_option maxHeartbeats 4000000 in
set_option maxRecDepth 100000 in
theorem w_K_partAt_0 {p : Program} {l : Launch} {e : Env} {s : State} {m : MethodId} {args : Array Value} {below : List Frame} {meth : Method} {c : Code} {A : Nat → Prop} {dC : Nat → ClassId} {dI : Nat → Nat → Nat} {dA : Nat → ClassId} {a : Nat → Nat} {z : Nat → Nat} (CX : fb_C p s m args meth c kc_K_partAt (some .int) 5 "FileTree$Disk" (dC, dI) vcl (tX dA) A (zX z)) (o : Int32 × fb_S) (x1 : Int32) (x2 : Int32) (st : fb_S) (hF : f_K_partAt x1 x2 st = some o) : fb_G p l e (headSpec kw_K_partAt rm_K_partAt).room s m args below meth c (dC, dI) vcl (tX dA) (wX dA a) A (some (.int o.1)) o.2 0 5 [(0, .ref (a 3)), (1, .int x1), (2, .int x2)] [] st := by
  intro H locs hP hD hS ls hl
  obtain ⟨hx, hb, hr, hml, hown, hts, hK, hA, hlocks, hZ⟩ := id CX
  unfold f_K_partAt at hF
  refine lv_iload_n hx hb kd_K_partAt_0 rfl (lv_at hl 1 rfl) ?_
  refine lv_iconst (v := 2) hx hb kd_K_partAt_1 (by decide) ?_
  refine lv_ishr hx hb kd_K_partAt_2 ?_
  refine lv_istore_n (lv' := [(3, .int (x1 >>> ((2 : Int32) &&& 31))), (0, .ref (a 3)), (1, .int x1), (2, .int x2)]) hx hb kd_K_partAt_3 rfl hl (by decide) rfl (fun ls hl => ?_)
  refine lv_iload_n hx hb kd_K_partAt_4 rfl (lv_at hl 2 rfl) ?_
  refine lv_iconst (v := 3) hx hb kd_K_partAt_5 (by decide) ?_
  refine lv_iand hx hb kd_K_partAt_6 ?_
  refine lv_iconst (v := 3) hx hb kd_K_partAt_7 (by decide) ?_
  refine lv_ishl hx hb kd_K_partAt_8 ?_
  refine lv_istore (lv' := [(4, .int ((x1 &&& (3 : Int32)) <<< ((3 : Int32) &&& 31))), (3, .int (x1 >>> ((2 : Int32) &&& 31))), (0, .ref (a 3)), (1, .int x1), (2, .int x2)]) hx hb kd_K_partAt_9 hl (by decide) rfl (fun ls hl => ?_)
  refine lv_iload_n hx hb kd_K_partAt_11 rfl (lv_at hl 1 rfl) ?_
  refine lv_if_lt (tgt := 38) hx hb kd_K_partAt_12 (by decide) (fun c1 => ?_) (fun c1 => ?_)
  · rw [if_pos c1] at hF
    refine lv_iconst (v := 0) hx hb kd_K_partAt_38 (by decide) ?_
    exact fb_ri (o := o) hx hb hr hlocks hK hP hD hS hF kd_K_partAt_39
  · rw [if_neg c1] at hF
    refine lv_iload_n hx hb kd_K_partAt_15 rfl (lv_at hl 1 rfl) ?_
    refine lv_aload_n hx hb kd_K_partAt_16 rfl (lv_at hl 2 rfl) ?_
    refine va_get (D := (dC, dI)) (ci := 1) (v := .ref (a 5)) (C := "FileTree$Disk") (T := ft_K) (N := 1) hx hb hts fi_K hown hK hP 3 rfl rfl 0 (by decide) (hts _ q_36) (fun _ h9 => h9) rfl kd_K_partAt_17 ?_
    refine va_alen (v := 131072) hx hb hK hP 5 0 rfl rfl rfl kd_K_partAt_20 ?_
    refine lv_icmp_ge (tgt := 38) hx hb kd_K_partAt_21 (by decide) (fun c2 => ?_) (fun c2 => ?_)
    · rw [if_pos c2] at hF
      refine lv_iconst (v := 0) hx hb kd_K_partAt_38 (by decide) ?_
      exact fb_ri (o := o) hx hb hr hlocks hK hP hD hS hF kd_K_partAt_39
    · rw [if_neg c2] at hF
      refine lv_aload_n hx hb kd_K_partAt_24 rfl (lv_at hl 2 rfl) ?_
      refine va_get (D := (dC, dI)) (ci := 1) (v := .ref (a 5)) (C := "FileTree$Disk") (T := ft_K) (N := 1) hx hb hts fi_K hown hK hP 3 rfl rfl 0 (by decide) (hts _ q_36) (fun _ h9 => h9) rfl kd_K_partAt_25 ?_
      refine lv_iload_n hx hb kd_K_partAt_28 rfl (lv_at hl 1 rfl) ?_
      obtain ⟨v3, e_v3, hF⟩ := fb_ob hF
      refine fb_iald hx hb hK hP 5 0 rfl rfl e_v3 kd_K_partAt_29 ?_
      refine lv_iload hx hb kd_K_partAt_30 (lv_at hl 0 rfl) ?_
      refine lv_iushr (v := fb_us v3 ((x1 &&& (3 : Int32)) <<< ((3 : Int32) &&& 31))) hx hb kd_K_partAt_32 rfl ?_
      refine lv_iload_n hx hb kd_K_partAt_33 rfl (lv_at hl 4 rfl) ?_
      refine lv_iand hx hb kd_K_partAt_34 ?_
      refine lv_goto (tgt := 39) hx hb kd_K_partAt_35 (by decide) ?_
      exact fb_ri (o := o) hx hb hr hlocks hK hP hD hS hF kd_K_partAt_39
theorem c_K_partAt (l : Launch) (dC : Nat → ClassId) (dI : Nat → Nat → Nat) (dA : Nat → ClassId) (a : Nat → Nat) (z : Nat → Nat) (x1 : Int32) (x2 : Int32) (st : fb_S) (o : Int32 × fb_S) (h : f_K_partAt x1 x2 st = some o) : fb_M l ky_K_partAt kw_K_partAt rm_K_partAt (dC, dI) vcl (tX dA) (wX dA a) (zX z) [.ref (a 3), .int x1, .int x2] (some (.int o.1)) st o.2 := fb_enter (by decide) rfl (Nat.le_of_ble_eq_true rfl) (fun p e s m below meth c A CX hP hD hS ls hl => w_K_partAt_0 CX o x1 x2 st h s.heap [] hP hD hS ls hl)
abbrev rm_K_setPart : Room := { frames := 0, cells := 0, slots := 0, locals := 0 }
def f_K_setPart (x1 : Int32) (x2 : Int32) (x3 : Int32) (st : fb_S) : Option (Int32 × fb_S) := (if (x1 >>> ((2 : Int32) &&& 31)) < (0 : Int32) then some (0, st) else (if (131072 : Int32) ≤ (x1 >>> ((2 : Int32) &&& 31)) then some (0, st) else (fb_ld (st 0) 131072 (x1 >>> ((2 : Int32) &&& 31))).bind fun v3 => (fb_st st 0 131072 (x1 >>> ((2 : Int32) &&& 31)) ((v3 &&& ((x2 <<< (((x1 &&& (3 : Int32)) <<< ((3 : Int32) &&& 31)) &&& 31)) ^^^ (-1 : Int32))) ||| ((x3 &&& x2) <<< (((x1 &&& (3 : Int32)) <<< ((3 : Int32) &&& 31)) &&& 31)))).bind fun s4 => some (0, s4)))
set_option maxHeartbeats 4000000 in
set_option maxRecDepth 100000 in
theorem w_K_setPart_0 {p : Program} {l : Launch} {e : Env} {s : State} {m : MethodId} {args : Array Value} {below : List Frame} {meth : Method} {c : Code} {A : Nat → Prop} {dC : Nat → ClassId} {dI : Nat → Nat → Nat} {dA : Nat → ClassId} {a : Nat → Nat} {z : Nat → Nat} (CX : fb_C p s m args meth c kc_K_setPart none 6 "FileTree$Disk" (dC, dI) vcl (tX dA) A (zX z)) (o : Int32 × fb_S) (x1 : Int32) (x2 : Int32) (x3 : Int32) (st : fb_S) (hF : f_K_setPart x1 x2 x3 st = some o) : fb_G p l e (headSpec kw_K_setPart rm_K_setPart).room s m args below meth c (dC, dI) vcl (tX dA) (wX dA a) A none o.2 0 6 [(0, .ref (a 3)), (1, .int x1), (2, .int x2), (3, .int x3)] [] st := by
  intro H locs hP hD hS ls hl
  obtain ⟨hx, hb, hr, hml, hown, hts, hK, hA, hlocks, hZ⟩ := id CX
  unfold f_K_setPart at hF
  refine lv_iload_n hx hb kd_K_setPart_0 rfl (lv_at hl 1 rfl) ?_
  refine lv_iconst (v := 2) hx hb kd_K_setPart_1 (by decide) ?_
  refine lv_ishr hx hb kd_K_setPart_2 ?_
  refine lv_istore (lv' := [(4, .int (x1 >>> ((2 : Int32) &&& 31))), (0, .ref (a 3)), (1, .int x1), (2, .int x2), (3, .int x3)]) hx hb kd_K_setPart_3 hl (by decide) rfl (fun ls hl => ?_)
  refine lv_iload_n hx hb kd_K_setPart_5 rfl (lv_at hl 2 rfl) ?_
  refine lv_iconst (v := 3) hx hb kd_K_setPart_6 (by decide) ?_
  refine lv_iand hx hb kd_K_setPart_7 ?_
  refine lv_iconst (v := 3) hx hb kd_K_setPart_8 (by decide) ?_
  refine lv_ishl hx hb kd_K_setPart_9 ?_
  refine lv_istore (lv' := [(5, .int ((x1 &&& (3 : Int32)) <<< ((3 : Int32) &&& 31))), (4, .int (x1 >>> ((2 : Int32) &&& 31))), (0, .ref (a 3)), (1, .int x1), (2, .int x2), (3, .int x3)]) hx hb kd_K_setPart_10 hl (by decide) rfl (fun ls hl => ?_)
  refine lv_iload hx hb kd_K_setPart_12 (lv_at hl 1 rfl) ?_
  refine lv_if_lt (tgt := 55) hx hb kd_K_setPart_14 (by decide) (fun c1 => ?_) (fun c1 => ?_)
  · rw [if_pos c1] at hF
    exact fb_rv (o := o) hx hb hr hlocks hK hP hD hS hF kd_K_setPart_55
  · rw [if_neg c1] at hF
    refine lv_iload hx hb kd_K_setPart_17 (lv_at hl 1 rfl) ?_
    refine lv_aload_n hx hb kd_K_setPart_19 rfl (lv_at hl 2 rfl) ?_
    refine va_get (D := (dC, dI)) (ci := 1) (v := .ref (a 5)) (C := "FileTree$Disk") (T := ft_K) (N := 1) hx hb hts fi_K hown hK hP 3 rfl rfl 0 (by decide) (hts _ q_36) (fun _ h9 => h9) rfl kd_K_setPart_20 ?_
    refine va_alen (v := 131072) hx hb hK hP 5 0 rfl rfl rfl kd_K_setPart_23 ?_
    refine lv_icmp_ge (tgt := 55) hx hb kd_K_setPart_24 (by decide) (fun c2 => ?_) (fun c2 => ?_)
    · rw [if_pos c2] at hF
      exact fb_rv (o := o) hx hb hr hlocks hK hP hD hS hF kd_K_setPart_55
    · rw [if_neg c2] at hF
      refine lv_aload_n hx hb kd_K_setPart_27 rfl (lv_at hl 2 rfl) ?_
      refine va_get (D := (dC, dI)) (ci := 1) (v := .ref (a 5)) (C := "FileTree$Disk") (T := ft_K) (N := 1) hx hb hts fi_K hown hK hP 3 rfl rfl 0 (by decide) (hts _ q_36) (fun _ h9 => h9) rfl kd_K_setPart_28 ?_
      refine lv_iload hx hb kd_K_setPart_31 (lv_at hl 1 rfl) ?_
      refine lv_aload_n hx hb kd_K_setPart_33 rfl (lv_at hl 2 rfl) ?_
      refine va_get (D := (dC, dI)) (ci := 1) (v := .ref (a 5)) (C := "FileTree$Disk") (T := ft_K) (N := 1) hx hb hts fi_K hown hK hP 3 rfl rfl 0 (by decide) (hts _ q_36) (fun _ h9 => h9) rfl kd_K_setPart_34 ?_
      refine lv_iload hx hb kd_K_setPart_37 (lv_at hl 1 rfl) ?_
      obtain ⟨v3, e_v3, hF⟩ := fb_ob hF
      refine fb_iald hx hb hK hP 5 0 rfl rfl e_v3 kd_K_setPart_39 ?_
      refine lv_iload_n hx hb kd_K_setPart_40 rfl (lv_at hl 4 rfl) ?_
      refine lv_iload hx hb kd_K_setPart_41 (lv_at hl 0 rfl) ?_
      refine lv_ishl hx hb kd_K_setPart_43 ?_
      refine lv_iconst (v := (-1)) hx hb kd_K_setPart_44 (by decide) ?_
      refine lv_ixor hx hb kd_K_setPart_45 ?_
      refine lv_iand hx hb kd_K_setPart_46 ?_
      refine lv_iload_n hx hb kd_K_setPart_47 rfl (lv_at hl 5 rfl) ?_
      refine lv_iload_n hx hb kd_K_setPart_48 rfl (lv_at hl 4 rfl) ?_
      refine lv_iand hx hb kd_K_setPart_49 ?_
      refine lv_iload hx hb kd_K_setPart_50 (lv_at hl 0 rfl) ?_
      refine lv_ishl hx hb kd_K_setPart_52 ?_
      refine lv_ior hx hb kd_K_setPart_53 ?_
      obtain ⟨s4, e_s4, hF⟩ := fb_ob hF
      refine fb_iast (wx := (wX dA a)) (k := 0) hx hb hK hP hD hS 5 0 rfl rfl e_s4 (fun _ => rfl) kd_K_setPart_54 (fun H locs hP hD hS => ?_)
      exact fb_rv (o := o) hx hb hr hlocks hK hP hD hS hF kd_K_setPart_55
theorem c_K_setPart (l : Launch) (dC : Nat → ClassId) (dI : Nat → Nat → Nat) (dA : Nat → ClassId) (a : Nat → Nat) (z : Nat → Nat) (x1 : Int32) (x2 : Int32) (x3 : Int32) (st : fb_S) (o : Int32 × fb_S) (h : f_K_setPart x1 x2 x3 st = some o) : fb_M l ky_K_setPart kw_K_setPart rm_K_setPart (dC, dI) vcl (tX dA) (wX dA a) (zX z) [.ref (a 3), .int x1, .int x2, .int x3] none st o.2 := fb_enter (by decide) rfl (Nat.le_of_ble_eq_true rfl) (fun p e s m below meth c A CX hP hD hS ls hl => w_K_setPart_0 CX o x1 x2 x3 st h s.heap [] hP hD hS ls hl)
abbrev rm_K_mark : Room := { frames := 1, cells := 0, slots := 0, locals := 25 }
def b_K_mark_50 (y0 : Int32) (y1 : Int32) (y2 : Int32) (st : fb_S) : Option (Int32 × fb_S) := (f_K_setPart y2 y1 y0 st).bind fun r1 => some (0, r1.2)
set_option maxHeartbeats 4000000 in
set_option maxRecDepth 100000 in
theorem w_K_mark_50 {p : Program} {l : Launch} {e : Env} {s : State} {m : MethodId} {args : Array Value} {below : List Frame} {meth : Method} {c : Code} {A : Nat → Prop} {dC : Nat → ClassId} {dI : Nat → Nat → Nat} {dA : Nat → ClassId} {a : Nat → Nat} {z : Nat → Nat} (CX : fb_C p s m args meth c kc_K_mark none 6 "FileTree$Disk" (dC, dI) vcl (tX dA) A (zX z)) (o : Int32 × fb_S) (y0 : Int32) (y1 : Int32) (y2 : Int32) (st : fb_S) (hF : b_K_mark_50 y0 y1 y2 st = some o) : fb_G p l e (headSpec kw_K_mark rm_K_mark).room s m args below meth c (dC, dI) vcl (tX dA) (wX dA a) A none o.2 50 6 [] [.int y0, .int y1, .int y2, .ref (a 3)] st := by
  intro H locs hP hD hS ls hl
  obtain ⟨hx, hb, hr, hml, hown, hts, hK, hA, hlocks, hZ⟩ := id CX
  unfold b_K_mark_50 at hF
  obtain ⟨r1, e_r1, hF⟩ := fb_ob hF
  refine fb_callV (As := [.int y2, .int y1, .int y0]) (rest := []) ⟨hx, hb, hml, hown, hts⟩ zX_mv hZ hK hP hD hS hA (c_K_setPart l dC dI dA a z y2 y1 y0 st r1 e_r1) (cwV 3 hts (gd_V q_100 ko_K_setPart) rfl rfl rfl kh_K_setPart ⟨Nat.le_of_ble_eq_true rfl, Nat.le_of_ble_eq_true rfl⟩) 1 3 rfl rfl rfl rfl hl.1 rfl (Nat.le_of_ble_eq_true rfl) kd_K_mark_50 ⟨Nat.zero_le _, Nat.zero_le _⟩ (fun H locs hP hD hS => ?_)
  refine W.eq (g2 := F0 m 53 ls []) rfl ?_
  exact fb_rv (o := o) hx hb hr hlocks hK hP hD hS hF kd_K_mark_53
def f_K_mark (x1 : Int32) (x2 : Int32) (st : fb_S) : Option (Int32 × fb_S) := (f_K_partAt ((37888 : Int32) + (x1 / (8 : Int32))) (255 : Int32) st).bind fun r1 => (if x2 = (0 : Int32) then b_K_mark_50 (r1.1 &&& (((1 : Int32) <<< ((x1 &&& (7 : Int32)) &&& 31)) ^^^ (-1 : Int32))) (255 : Int32) ((37888 : Int32) + (x1 / (8 : Int32))) r1.2 else b_K_mark_50 ((r1.1 &&& (((1 : Int32) <<< ((x1 &&& (7 : Int32)) &&& 31)) ^^^ (-1 : Int32))) ||| ((1 : Int32) <<< ((x1 &&& (7 : Int32)) &&& 31))) (255 : Int32) ((37888 : Int32) + (x1 / (8 : Int32))) r1.2)
set_option maxHeartbeats 4000000 in
set_option maxRecDepth 100000 in
theorem w_K_mark_0 {p : Program} {l : Launch} {e : Env} {s : State} {m : MethodId} {args : Array Value} {below : List Frame} {meth : Method} {c : Code} {A : Nat → Prop} {dC : Nat → ClassId} {dI : Nat → Nat → Nat} {dA : Nat → ClassId} {a : Nat → Nat} {z : Nat → Nat} (CX : fb_C p s m args meth c kc_K_mark none 6 "FileTree$Disk" (dC, dI) vcl (tX dA) A (zX z)) (o : Int32 × fb_S) (x1 : Int32) (x2 : Int32) (st : fb_S) (hF : f_K_mark x1 x2 st = some o) : fb_G p l e (headSpec kw_K_mark rm_K_mark).room s m args below meth c (dC, dI) vcl (tX dA) (wX dA a) A none o.2 0 6 [(0, .ref (a 3)), (1, .int x1), (2, .int x2)] [] st := by
  intro H locs hP hD hS ls hl
  obtain ⟨hx, hb, hr, hml, hown, hts, hK, hA, hlocks, hZ⟩ := id CX
  unfold f_K_mark at hF
  refine lv_ldc (v := 37888) hx hb hown (hts _ q_95) kd_K_mark_0 ?_
  refine lv_iload_n hx hb kd_K_mark_2 rfl (lv_at hl 1 rfl) ?_
  refine lv_bipush (v := 8) hx hb kd_K_mark_3 (by decide) ?_
  refine lv_idiv hx hb kd_K_mark_5 (by decide) ?_
  refine lv_iadd hx hb kd_K_mark_6 ?_
  refine lv_istore_n (lv' := [(3, .int ((37888 : Int32) + (x1 / (8 : Int32)))), (0, .ref (a 3)), (1, .int x1), (2, .int x2)]) hx hb kd_K_mark_7 rfl hl (by decide) rfl (fun ls hl => ?_)
  refine lv_iconst (v := 1) hx hb kd_K_mark_8 (by decide) ?_
  refine lv_iload_n hx hb kd_K_mark_9 rfl (lv_at hl 2 rfl) ?_
  refine lv_bipush (v := 7) hx hb kd_K_mark_10 (by decide) ?_
  refine lv_iand hx hb kd_K_mark_12 ?_
  refine lv_ishl hx hb kd_K_mark_13 ?_
  refine lv_istore (lv' := [(4, .int ((1 : Int32) <<< ((x1 &&& (7 : Int32)) &&& 31))), (3, .int ((37888 : Int32) + (x1 / (8 : Int32)))), (0, .ref (a 3)), (1, .int x1), (2, .int x2)]) hx hb kd_K_mark_14 hl (by decide) rfl (fun ls hl => ?_)
  refine lv_aload_n hx hb kd_K_mark_16 rfl (lv_at hl 2 rfl) ?_
  refine lv_iload_n hx hb kd_K_mark_17 rfl (lv_at hl 1 rfl) ?_
  refine lv_sipush (v := 255) hx hb kd_K_mark_18 (by decide) ?_
  obtain ⟨r1, e_r1, hF⟩ := fb_ob hF
  refine fb_callV (As := [.int ((37888 : Int32) + (x1 / (8 : Int32))), .int (255 : Int32)]) (rest := []) ⟨hx, hb, hml, hown, hts⟩ zX_mv hZ hK hP hD hS hA (c_K_partAt l dC dI dA a z ((37888 : Int32) + (x1 / (8 : Int32))) (255 : Int32) st r1 e_r1) (cwV 2 hts (gd_V q_96 ko_K_partAt) rfl rfl rfl kh_K_partAt ⟨Nat.le_of_ble_eq_true rfl, Nat.le_of_ble_eq_true rfl⟩) 1 3 rfl rfl rfl rfl hl.1 rfl (Nat.le_of_ble_eq_true rfl) kd_K_mark_21 ⟨Nat.zero_le _, Nat.zero_le _⟩ (fun H locs hP hD hS => ?_)
  refine W.eq (g2 := F0 m 24 ls [.int r1.1]) rfl ?_
  refine lv_iload hx hb kd_K_mark_24 (lv_at hl 0 rfl) ?_
  refine lv_iconst (v := (-1)) hx hb kd_K_mark_26 (by decide) ?_
  refine lv_ixor hx hb kd_K_mark_27 ?_
  refine lv_iand hx hb kd_K_mark_28 ?_
  refine lv_istore (lv' := [(5, .int (r1.1 &&& (((1 : Int32) <<< ((x1 &&& (7 : Int32)) &&& 31)) ^^^ (-1 : Int32)))), (4, .int ((1 : Int32) <<< ((x1 &&& (7 : Int32)) &&& 31))), (3, .int ((37888 : Int32) + (x1 / (8 : Int32)))), (0, .ref (a 3)), (1, .int x1), (2, .int x2)]) hx hb kd_K_mark_29 hl (by decide) rfl (fun ls hl => ?_)
  refine lv_aload_n hx hb kd_K_mark_31 rfl (lv_at hl 3 rfl) ?_
  refine lv_iload_n hx hb kd_K_mark_32 rfl (lv_at hl 2 rfl) ?_
  refine lv_sipush (v := 255) hx hb kd_K_mark_33 (by decide) ?_
  refine lv_iload_n hx hb kd_K_mark_36 rfl (lv_at hl 5 rfl) ?_
  refine lv_if_eq (tgt := 48) hx hb kd_K_mark_37 (by decide) (fun c2 => ?_) (fun c2 => ?_)
  · rw [if_pos c2] at hF
    refine lv_iload hx hb kd_K_mark_48 (lv_at hl 0 rfl) ?_
    exact w_K_mark_50 CX o (r1.1 &&& (((1 : Int32) <<< ((x1 &&& (7 : Int32)) &&& 31)) ^^^ (-1 : Int32))) (255 : Int32) ((37888 : Int32) + (x1 / (8 : Int32))) r1.2 hF H locs hP hD hS ls (lv_sub hl [] rfl)
  · rw [if_neg c2] at hF
    refine lv_iload hx hb kd_K_mark_40 (lv_at hl 0 rfl) ?_
    refine lv_iload hx hb kd_K_mark_42 (lv_at hl 1 rfl) ?_
    refine lv_ior hx hb kd_K_mark_44 ?_
    refine lv_goto (tgt := 50) hx hb kd_K_mark_45 (by decide) ?_
    exact w_K_mark_50 CX o ((r1.1 &&& (((1 : Int32) <<< ((x1 &&& (7 : Int32)) &&& 31)) ^^^ (-1 : Int32))) ||| ((1 : Int32) <<< ((x1 &&& (7 : Int32)) &&& 31))) (255 : Int32) ((37888 : Int32) + (x1 / (8 : Int32))) r1.2 hF H locs hP hD hS ls (lv_sub hl [] rfl)
theorem c_K_mark (l : Launch) (dC : Nat → ClassId) (dI : Nat → Nat → Nat) (dA : Nat → ClassId) (a : Nat → Nat) (z : Nat → Nat) (x1 : Int32) (x2 : Int32) (st : fb_S) (o : Int32 × fb_S) (h : f_K_mark x1 x2 st = some o) : fb_M l ky_K_mark kw_K_mark rm_K_mark (dC, dI) vcl (tX dA) (wX dA a) (zX z) [.ref (a 3), .int x1, .int x2] none st o.2 := fb_enter (by decide) rfl (Nat.le_of_ble_eq_true rfl) (fun p e s m below meth c A CX hP hD hS ls hl => w_K_mark_0 CX o x1 x2 st h s.heap [] hP hD hS ls hl)
abbrev rm_K_setNumber : Room := { frames := 0, cells := 0, slots := 0, locals := 0 }
def f_K_setNumber (x1 : Int32) (x2 : Int32) (st : fb_S) : Option (Int32 × fb_S) := (if (x1 >>> ((2 : Int32) &&& 31)) < (0 : Int32) then some (0, st) else (if (131072 : Int32) ≤ (x1 >>> ((2 : Int32) &&& 31)) then some (0, st) else (fb_st st 0 131072 (x1 >>> ((2 : Int32) &&& 31)) x2).bind fun s3 => some (0, s3)))
set_option maxHeartbeats 4000000 in
set_option maxRecDepth 100000 in
theorem w_K_setNumber_0 {p : Program} {l : Launch} {e : Env} {s : State} {m : MethodId} {args : Array Value} {below : List Frame} {meth : Method} {c : Code} {A : Nat → Prop} {dC : Nat → ClassId} {dI : Nat → Nat → Nat} {dA : Nat → ClassId} {a : Nat → Nat} {z : Nat → Nat} (CX : fb_C p s m args meth c kc_K_setNumber none 4 "FileTree$Disk" (dC, dI) vcl (tX dA) A (zX z)) (o : Int32 × fb_S) (x1 : Int32) (x2 : Int32) (st : fb_S) (hF : f_K_setNumber x1 x2 st = some o) : fb_G p l e (headSpec kw_K_setNumber rm_K_setNumber).room s m args below meth c (dC, dI) vcl (tX dA) (wX dA a) A none o.2 0 4 [(0, .ref (a 3)), (1, .int x1), (2, .int x2)] [] st := by
  intro H locs hP hD hS ls hl
  obtain ⟨hx, hb, hr, hml, hown, hts, hK, hA, hlocks, hZ⟩ := id CX
  unfold f_K_setNumber at hF
  refine lv_iload_n hx hb kd_K_setNumber_0 rfl (lv_at hl 1 rfl) ?_
  refine lv_iconst (v := 2) hx hb kd_K_setNumber_1 (by decide) ?_
  refine lv_ishr hx hb kd_K_setNumber_2 ?_
  refine lv_istore_n (lv' := [(3, .int (x1 >>> ((2 : Int32) &&& 31))), (0, .ref (a 3)), (1, .int x1), (2, .int x2)]) hx hb kd_K_setNumber_3 rfl hl (by decide) rfl (fun ls hl => ?_)
  refine lv_iload_n hx hb kd_K_setNumber_4 rfl (lv_at hl 0 rfl) ?_
  refine lv_if_lt (tgt := 24) hx hb kd_K_setNumber_5 (by decide) (fun c1 => ?_) (fun c1 => ?_)
  · rw [if_pos c1] at hF
    exact fb_rv (o := o) hx hb hr hlocks hK hP hD hS hF kd_K_setNumber_24
  · rw [if_neg c1] at hF
    refine lv_iload_n hx hb kd_K_setNumber_8 rfl (lv_at hl 0 rfl) ?_
    refine lv_aload_n hx hb kd_K_setNumber_9 rfl (lv_at hl 1 rfl) ?_
    refine va_get (D := (dC, dI)) (ci := 1) (v := .ref (a 5)) (C := "FileTree$Disk") (T := ft_K) (N := 1) hx hb hts fi_K hown hK hP 3 rfl rfl 0 (by decide) (hts _ q_36) (fun _ h9 => h9) rfl kd_K_setNumber_10 ?_
    refine va_alen (v := 131072) hx hb hK hP 5 0 rfl rfl rfl kd_K_setNumber_13 ?_
    refine lv_icmp_ge (tgt := 24) hx hb kd_K_setNumber_14 (by decide) (fun c2 => ?_) (fun c2 => ?_)
    · rw [if_pos c2] at hF
      exact fb_rv (o := o) hx hb hr hlocks hK hP hD hS hF kd_K_setNumber_24
    · rw [if_neg c2] at hF
      refine lv_aload_n hx hb kd_K_setNumber_17 rfl (lv_at hl 1 rfl) ?_
      refine va_get (D := (dC, dI)) (ci := 1) (v := .ref (a 5)) (C := "FileTree$Disk") (T := ft_K) (N := 1) hx hb hts fi_K hown hK hP 3 rfl rfl 0 (by decide) (hts _ q_36) (fun _ h9 => h9) rfl kd_K_setNumber_18 ?_
      refine lv_iload_n hx hb kd_K_setNumber_21 rfl (lv_at hl 0 rfl) ?_
      refine lv_iload_n hx hb kd_K_setNumber_22 rfl (lv_at hl 3 rfl) ?_
      obtain ⟨s3, e_s3, hF⟩ := fb_ob hF
      refine fb_iast (wx := (wX dA a)) (k := 0) hx hb hK hP hD hS 5 0 rfl rfl e_s3 (fun _ => rfl) kd_K_setNumber_23 (fun H locs hP hD hS => ?_)
      exact fb_rv (o := o) hx hb hr hlocks hK hP hD hS hF kd_K_setNumber_24
theorem c_K_setNumber (l : Launch) (dC : Nat → ClassId) (dI : Nat → Nat → Nat) (dA : Nat → ClassId) (a : Nat → Nat) (z : Nat → Nat) (x1 : Int32) (x2 : Int32) (st : fb_S) (o : Int32 × fb_S) (h : f_K_setNumber x1 x2 st = some o) : fb_M l ky_K_setNumber kw_K_setNumber rm_K_setNumber (dC, dI) vcl (tX dA) (wX dA a) (zX z) [.ref (a 3), .int x1, .int x2] none st o.2 := fb_enter (by decide) rfl (Nat.le_of_ble_eq_true rfl) (fun p e s m below meth c A CX hP hD hS ls hl => w_K_setNumber_0 CX o x1 x2 st h s.heap [] hP hD hS ls hl)
abbrev rm_K_format : Room := { frames := 2, cells := 0, slots := 0, locals := 50 }
def b_K_format_34 (k34 : Int32 → fb_S → Option (Int32 × fb_S)) (x1 : Int32) (st : fb_S) : Option (Int32 × fb_S) := (if (38 : Int32) ≤ x1 then some (0, st) else (f_K_mark x1 (1 : Int32) st).bind fun r2 => k34 (x1 + (1 : Int32)) r2.2)
set_option maxHeartbeats 4000000 in
set_option maxRecDepth 100000 in
theorem w_K_format_34 {p : Program} {l : Launch} {e : Env} {s : State} {m : MethodId} {args : Array Value} {below : List Frame} {meth : Method} {c : Code} {A : Nat → Prop} {dC : Nat → ClassId} {dI : Nat → Nat → Nat} {dA : Nat → ClassId} {a : Nat → Nat} {z : Nat → Nat} (CX : fb_C p s m args meth c kc_K_format none 2 "FileTree$Disk" (dC, dI) vcl (tX dA) A (zX z)) (o : Int32 × fb_S) (k34 : Int32 → fb_S → Option (Int32 × fb_S)) (hk34 : ∀ (x1 : Int32) (st : fb_S), k34 x1 st = some o → fb_G p l e (headSpec kw_K_format rm_K_format).room s m args below meth c (dC, dI) vcl (tX dA) (wX dA a) A none o.2 34 2 [(0, .ref (a 3)), (1, .int x1)] [] st) (x1 : Int32) (st : fb_S) (hF : b_K_format_34 k34 x1 st = some o) : fb_G p l e (headSpec kw_K_format rm_K_format).room s m args below meth c (dC, dI) vcl (tX dA) (wX dA a) A none o.2 34 2 [(0, .ref (a 3)), (1, .int x1)] [] st := by
  intro H locs hP hD hS ls hl
  obtain ⟨hx, hb, hr, hml, hown, hts, hK, hA, hlocks, hZ⟩ := id CX
  unfold b_K_format_34 at hF
  refine lv_iload_n hx hb kd_K_format_34 rfl (lv_at hl 1 rfl) ?_
  refine lv_bipush (v := 38) hx hb kd_K_format_35 (by decide) ?_
  refine lv_icmp_ge (tgt := 52) hx hb kd_K_format_37 (by decide) (fun c1 => ?_) (fun c1 => ?_)
  · rw [if_pos c1] at hF
    exact fb_rv (o := o) hx hb hr hlocks hK hP hD hS hF kd_K_format_52
  · rw [if_neg c1] at hF
    refine lv_aload_n hx hb kd_K_format_40 rfl (lv_at hl 0 rfl) ?_
    refine lv_iload_n hx hb kd_K_format_41 rfl (lv_at hl 1 rfl) ?_
    refine lv_iconst (v := 1) hx hb kd_K_format_42 (by decide) ?_
    obtain ⟨r2, e_r2, hF⟩ := fb_ob hF
    refine fb_callV (As := [.int x1, .int (1 : Int32)]) (rest := []) ⟨hx, hb, hml, hown, hts⟩ zX_mv hZ hK hP hD hS hA (c_K_mark l dC dI dA a z x1 (1 : Int32) st r2 e_r2) (cwV 2 hts (gd_V q_91 ko_K_mark) rfl rfl rfl kh_K_mark ⟨Nat.le_of_ble_eq_true rfl, Nat.le_of_ble_eq_true rfl⟩) 1 3 rfl rfl rfl rfl hl.1 rfl (Nat.le_of_ble_eq_true rfl) kd_K_format_43 ⟨Nat.zero_le _, Nat.zero_le _⟩ (fun H locs hP hD hS => ?_)
    refine W.eq (g2 := F0 m 46 ls []) rfl ?_
    refine lv_iinc (v := x1 + (1 : Int32)) (lv' := [(1, .int (x1 + (1 : Int32))), (0, .ref (a 3))]) hx hb kd_K_format_46 hl (k := 1) rfl rfl (by decide) rfl (fun ls hl => ?_)
    refine lv_goto (tgt := 34) hx hb kd_K_format_49 (by decide) ?_
    exact hk34 (x1 + (1 : Int32)) r2.2 hF H locs hP hD hS ls (lv_sub hl [1, 0] rfl)
def l_K_format_34 : Nat → Int32 → fb_S → Option (Int32 × fb_S)
  | 0 => fun _ _ => none
  | n + 1 => b_K_format_34 (l_K_format_34 n)
theorem v_K_format_34 {p : Program} {l : Launch} {e : Env} {s : State} {m : MethodId} {args : Array Value} {below : List Frame} {meth : Method} {c : Code} {A : Nat → Prop} {dC : Nat → ClassId} {dI : Nat → Nat → Nat} {dA : Nat → ClassId} {a : Nat → Nat} {z : Nat → Nat} (CX : fb_C p s m args meth c kc_K_format none 2 "FileTree$Disk" (dC, dI) vcl (tX dA) A (zX z)) (o : Int32 × fb_S) (n : Nat) : ∀ (x1 : Int32) (st : fb_S), l_K_format_34 n x1 st = some o → fb_G p l e (headSpec kw_K_format rm_K_format).room s m args below meth c (dC, dI) vcl (tX dA) (wX dA a) A none o.2 34 2 [(0, .ref (a 3)), (1, .int x1)] [] st := by
  induction n with
  | zero => intro x1 st hF; cases hF
  | succ n ih => intro x1 st hF; exact w_K_format_34 CX o (l_K_format_34 n) ih x1 st hF
def b_K_format_2 (k2 : Int32 → fb_S → Option (Int32 × fb_S)) (x1 : Int32) (st : fb_S) : Option (Int32 × fb_S) := (if (8 : Int32) ≤ x1 then l_K_format_34 fb_n (0 : Int32) st else (fb_ld (zf_0) 8 x1).bind fun v2 => (f_K_setNumber ((1024 : Int32) + ((4 : Int32) * x1)) v2 st).bind fun r3 => k2 (x1 + (1 : Int32)) r3.2)
set_option maxHeartbeats 4000000 in
set_option maxRecDepth 100000 in
theorem w_K_format_2 {p : Program} {l : Launch} {e : Env} {s : State} {m : MethodId} {args : Array Value} {below : List Frame} {meth : Method} {c : Code} {A : Nat → Prop} {dC : Nat → ClassId} {dI : Nat → Nat → Nat} {dA : Nat → ClassId} {a : Nat → Nat} {z : Nat → Nat} (CX : fb_C p s m args meth c kc_K_format none 2 "FileTree$Disk" (dC, dI) vcl (tX dA) A (zX z)) (o : Int32 × fb_S) (k2 : Int32 → fb_S → Option (Int32 × fb_S)) (hk2 : ∀ (x1 : Int32) (st : fb_S), k2 x1 st = some o → fb_G p l e (headSpec kw_K_format rm_K_format).room s m args below meth c (dC, dI) vcl (tX dA) (wX dA a) A none o.2 2 2 [(0, .ref (a 3)), (1, .int x1)] [] st) (x1 : Int32) (st : fb_S) (hF : b_K_format_2 k2 x1 st = some o) : fb_G p l e (headSpec kw_K_format rm_K_format).room s m args below meth c (dC, dI) vcl (tX dA) (wX dA a) A none o.2 2 2 [(0, .ref (a 3)), (1, .int x1)] [] st := by
  intro H locs hP hD hS ls hl
  obtain ⟨hx, hb, hr, hml, hown, hts, hK, hA, hlocks, hZ⟩ := id CX
  unfold b_K_format_2 at hF
  refine lv_iload_n hx hb kd_K_format_2 rfl (lv_at hl 1 rfl) ?_
  refine va_getsN hx hb hZ.1 hS hown (va_Nw.use rfl hZ.2.2.2.2.2.2.1) (fun _ h9 => h9) kd_K_format_3 ?_
  refine va_tlen (v := 8) hx hb hZ.2.2.2.1 hS rfl kd_K_format_6 ?_
  refine lv_icmp_ge (tgt := 32) hx hb kd_K_format_7 (by decide) (fun c1 => ?_) (fun c1 => ?_)
  · rw [if_pos c1] at hF
    refine lv_iconst (v := 0) hx hb kd_K_format_32 (by decide) ?_
    refine lv_istore_n (lv' := [(1, .int (0 : Int32)), (0, .ref (a 3))]) hx hb kd_K_format_33 rfl hl (by decide) rfl (fun ls hl => ?_)
    exact v_K_format_34 CX o fb_n (0 : Int32) st hF H locs hP hD hS ls (lv_sub hl [1, 0] rfl)
  · rw [if_neg c1] at hF
    refine lv_aload_n hx hb kd_K_format_10 rfl (lv_at hl 0 rfl) ?_
    refine lv_sipush (v := 1024) hx hb kd_K_format_11 (by decide) ?_
    refine lv_iconst (v := 4) hx hb kd_K_format_14 (by decide) ?_
    refine lv_iload_n hx hb kd_K_format_15 rfl (lv_at hl 1 rfl) ?_
    refine lv_imul hx hb kd_K_format_16 ?_
    refine lv_iadd hx hb kd_K_format_17 ?_
    refine va_getsN hx hb hZ.1 hS hown (va_Nw.use rfl hZ.2.2.2.2.2.2.1) (fun _ h9 => h9) kd_K_format_18 ?_
    refine lv_iload_n hx hb kd_K_format_21 rfl (lv_at hl 1 rfl) ?_
    obtain ⟨v2, e_v2, hF⟩ := fb_ob hF
    refine fb_ti hx hb hZ.2.2.2.1 hS e_v2 kd_K_format_22 ?_
    obtain ⟨r3, e_r3, hF⟩ := fb_ob hF
    refine fb_callV (As := [.int ((1024 : Int32) + ((4 : Int32) * x1)), .int v2]) (rest := []) ⟨hx, hb, hml, hown, hts⟩ zX_mv hZ hK hP hD hS hA (c_K_setNumber l dC dI dA a z ((1024 : Int32) + ((4 : Int32) * x1)) v2 st r3 e_r3) (cwV 2 hts (gd_V q_87 ko_K_setNumber) rfl rfl rfl kh_K_setNumber ⟨Nat.le_of_ble_eq_true rfl, Nat.le_of_ble_eq_true rfl⟩) 1 3 rfl rfl rfl rfl hl.1 rfl (Nat.le_of_ble_eq_true rfl) kd_K_format_23 ⟨Nat.zero_le _, Nat.zero_le _⟩ (fun H locs hP hD hS => ?_)
    refine W.eq (g2 := F0 m 26 ls []) rfl ?_
    refine lv_iinc (v := x1 + (1 : Int32)) (lv' := [(1, .int (x1 + (1 : Int32))), (0, .ref (a 3))]) hx hb kd_K_format_26 hl (k := 1) rfl rfl (by decide) rfl (fun ls hl => ?_)
    refine lv_goto (tgt := 2) hx hb kd_K_format_29 (by decide) ?_
    exact hk2 (x1 + (1 : Int32)) r3.2 hF H locs hP hD hS ls (lv_sub hl [1, 0] rfl)
def l_K_format_2 : Nat → Int32 → fb_S → Option (Int32 × fb_S)
  | 0 => fun _ _ => none
  | n + 1 => b_K_format_2 (l_K_format_2 n)
theorem v_K_format_2 {p : Program} {l : Launch} {e : Env} {s : State} {m : MethodId} {args : Array Value} {below : List Frame} {meth : Method} {c : Code} {A : Nat → Prop} {dC : Nat → ClassId} {dI : Nat → Nat → Nat} {dA : Nat → ClassId} {a : Nat → Nat} {z : Nat → Nat} (CX : fb_C p s m args meth c kc_K_format none 2 "FileTree$Disk" (dC, dI) vcl (tX dA) A (zX z)) (o : Int32 × fb_S) (n : Nat) : ∀ (x1 : Int32) (st : fb_S), l_K_format_2 n x1 st = some o → fb_G p l e (headSpec kw_K_format rm_K_format).room s m args below meth c (dC, dI) vcl (tX dA) (wX dA a) A none o.2 2 2 [(0, .ref (a 3)), (1, .int x1)] [] st := by
  induction n with
  | zero => intro x1 st hF; cases hF
  | succ n ih => intro x1 st hF; exact w_K_format_2 CX o (l_K_format_2 n) ih x1 st hF
def f_K_format (st : fb_S) : Option (Int32 × fb_S) := l_K_format_2 fb_n (0 : Int32) st
set_option maxHeartbeats 4000000 in
set_option maxRecDepth 100000 in
theorem w_K_format_0 {p : Program} {l : Launch} {e : Env} {s : State} {m : MethodId} {args : Array Value} {below : List Frame} {meth : Method} {c : Code} {A : Nat → Prop} {dC : Nat → ClassId} {dI : Nat → Nat → Nat} {dA : Nat → ClassId} {a : Nat → Nat} {z : Nat → Nat} (CX : fb_C p s m args meth c kc_K_format none 2 "FileTree$Disk" (dC, dI) vcl (tX dA) A (zX z)) (o : Int32 × fb_S) (st : fb_S) (hF : f_K_format st = some o) : fb_G p l e (headSpec kw_K_format rm_K_format).room s m args below meth c (dC, dI) vcl (tX dA) (wX dA a) A none o.2 0 2 [(0, .ref (a 3))] [] st := by
  intro H locs hP hD hS ls hl
  obtain ⟨hx, hb, hr, hml, hown, hts, hK, hA, hlocks, hZ⟩ := id CX
  unfold f_K_format at hF
  refine lv_iconst (v := 0) hx hb kd_K_format_0 (by decide) ?_
  refine lv_istore_n (lv' := [(1, .int (0 : Int32)), (0, .ref (a 3))]) hx hb kd_K_format_1 rfl hl (by decide) rfl (fun ls hl => ?_)
  exact v_K_format_2 CX o fb_n (0 : Int32) st hF H locs hP hD hS ls (lv_sub hl [1, 0] rfl)
theorem c_K_format (l : Launch) (dC : Nat → ClassId) (dI : Nat → Nat → Nat) (dA : Nat → ClassId) (a : Nat → Nat) (z : Nat → Nat) (st : fb_S) (o : Int32 × fb_S) (h : f_K_format st = some o) : fb_M l ky_K_format kw_K_format rm_K_format (dC, dI) vcl (tX dA) (wX dA a) (zX z) [.ref (a 3)] none st o.2 := fb_enter (by decide) rfl (Nat.le_of_ble_eq_true rfl) (fun p e s m below meth c A CX hP hD hS ls hl => w_K_format_0 CX o st h s.heap [] hP hD hS ls hl)
abbrev rm_I_isInode : Room := { frames := 0, cells := 0, slots := 0, locals := 0 }
def f_I_isInode (x1 : Int32) (st : fb_S) : Option (Int32 × fb_S) := (if x1 < (0 : Int32) then fb_rz (0 : Int32) st else (if (64 : Int32) ≤ x1 then fb_rz (0 : Int32) st else fb_rz (1 : Int32) st))
set_option maxHeartbeats 4000000 in
set_option maxRecDepth 100000 in
theorem w_I_isInode_0 {p : Program} {l : Launch} {e : Env} {s : State} {m : MethodId} {args : Array Value} {below : List Frame} {meth : Method} {c : Code} {A : Nat → Prop} {dC : Nat → ClassId} {dI : Nat → Nat → Nat} {dA : Nat → ClassId} {a : Nat → Nat} {z : Nat → Nat} (CX : fb_C p s m args meth c kc_I_isInode (some .boolean) 2 "FileTree$Inodes" (dC, dI) vcl (tX dA) A (zX z)) (o : Int32 × fb_S) (x1 : Int32) (st : fb_S) (hF : f_I_isInode x1 st = some o) : fb_G p l e (headSpec kw_I_isInode rm_I_isInode).room s m args below meth c (dC, dI) vcl (tX dA) (wX dA a) A (some (.int o.1)) o.2 0 2 [(0, .ref (a 2)), (1, .int x1)] [] st := by
  intro H locs hP hD hS ls hl
  obtain ⟨hx, hb, hr, hml, hown, hts, hK, hA, hlocks, hZ⟩ := id CX
  unfold f_I_isInode at hF
  refine lv_iload_n hx hb kd_I_isInode_0 rfl (lv_at hl 1 rfl) ?_
  refine lv_if_lt (tgt := 14) hx hb kd_I_isInode_1 (by decide) (fun c1 => ?_) (fun c1 => ?_)
  · rw [if_pos c1] at hF
    refine lv_iconst (v := 0) hx hb kd_I_isInode_14 (by decide) ?_
    exact fb_rb (o := o) hx hb hr hlocks hK hP hD hS hF kd_I_isInode_15
  · rw [if_neg c1] at hF
    refine lv_iload_n hx hb kd_I_isInode_4 rfl (lv_at hl 1 rfl) ?_
    refine lv_bipush (v := 64) hx hb kd_I_isInode_5 (by decide) ?_
    refine lv_icmp_ge (tgt := 14) hx hb kd_I_isInode_7 (by decide) (fun c2 => ?_) (fun c2 => ?_)
    · rw [if_pos c2] at hF
      refine lv_iconst (v := 0) hx hb kd_I_isInode_14 (by decide) ?_
      exact fb_rb (o := o) hx hb hr hlocks hK hP hD hS hF kd_I_isInode_15
    · rw [if_neg c2] at hF
      refine lv_iconst (v := 1) hx hb kd_I_isInode_10 (by decide) ?_
      refine lv_goto (tgt := 15) hx hb kd_I_isInode_11 (by decide) ?_
      exact fb_rb (o := o) hx hb hr hlocks hK hP hD hS hF kd_I_isInode_15
theorem c_I_isInode (l : Launch) (dC : Nat → ClassId) (dI : Nat → Nat → Nat) (dA : Nat → ClassId) (a : Nat → Nat) (z : Nat → Nat) (x1 : Int32) (st : fb_S) (o : Int32 × fb_S) (h : f_I_isInode x1 st = some o) : fb_M l ky_I_isInode kw_I_isInode rm_I_isInode (dC, dI) vcl (tX dA) (wX dA a) (zX z) [.ref (a 2), .int x1] (some (.int o.1)) st o.2 := fb_enter (by decide) rfl (Nat.le_of_ble_eq_true rfl) (fun p e s m below meth c A CX hP hD hS ls hl => w_I_isInode_0 CX o x1 st h s.heap [] hP hD hS ls hl)
abbrev rm_I_placeOf : Room := { frames := 0, cells := 0, slots := 0, locals := 0 }
def f_I_placeOf (x1 : Int32) (st : fb_S) : Option (Int32 × fb_S) := some ((33792 : Int32) + (x1 * (64 : Int32)), st)
set_option maxHeartbeats 4000000 in
set_option maxRecDepth 100000 in
theorem w_I_placeOf_0 {p : Program} {l : Launch} {e : Env} {s : State} {m : MethodId} {args : Array Value} {below : List Frame} {meth : Method} {c : Code} {A : Nat → Prop} {dC : Nat → ClassId} {dI : Nat → Nat → Nat} {dA : Nat → ClassId} {a : Nat → Nat} {z : Nat → Nat} (CX : fb_C p s m args meth c kc_I_placeOf (some .int) 2 "FileTree$Inodes" (dC, dI) vcl (tX dA) A (zX z)) (o : Int32 × fb_S) (x1 : Int32) (st : fb_S) (hF : f_I_placeOf x1 st = some o) : fb_G p l e (headSpec kw_I_placeOf rm_I_placeOf).room s m args below meth c (dC, dI) vcl (tX dA) (wX dA a) A (some (.int o.1)) o.2 0 2 [(0, .ref (a 2)), (1, .int x1)] [] st := by
  intro H locs hP hD hS ls hl
  obtain ⟨hx, hb, hr, hml, hown, hts, hK, hA, hlocks, hZ⟩ := id CX
  unfold f_I_placeOf at hF
  refine lv_ldc (v := 33792) hx hb hown (hts _ q_116) kd_I_placeOf_0 ?_
  refine lv_iload_n hx hb kd_I_placeOf_2 rfl (lv_at hl 1 rfl) ?_
  refine lv_bipush (v := 64) hx hb kd_I_placeOf_3 (by decide) ?_
  refine lv_imul hx hb kd_I_placeOf_5 ?_
  refine lv_iadd hx hb kd_I_placeOf_6 ?_
  exact fb_ri (o := o) hx hb hr hlocks hK hP hD hS hF kd_I_placeOf_7
theorem c_I_placeOf (l : Launch) (dC : Nat → ClassId) (dI : Nat → Nat → Nat) (dA : Nat → ClassId) (a : Nat → Nat) (z : Nat → Nat) (x1 : Int32) (st : fb_S) (o : Int32 × fb_S) (h : f_I_placeOf x1 st = some o) : fb_M l ky_I_placeOf kw_I_placeOf rm_I_placeOf (dC, dI) vcl (tX dA) (wX dA a) (zX z) [.ref (a 2), .int x1] (some (.int o.1)) st o.2 := fb_enter (by decide) rfl (Nat.le_of_ble_eq_true rfl) (fun p e s m below meth c A CX hP hD hS ls hl => w_I_placeOf_0 CX o x1 st h s.heap [] hP hD hS ls hl)
abbrev rm_I_make : Room := { frames := 1, cells := 0, slots := 0, locals := 25 }
def f_I_make (x1 : Int32) (x2 : Int32) (x3 : Int32) (x4 : Int32) (st : fb_S) : Option (Int32 × fb_S) := (f_I_isInode x1 st).bind fun r1 => (if r1.1 = (0 : Int32) then some (0, r1.2) else (f_I_placeOf x1 r1.2).bind fun r3 => (f_K_setPart (r3.1 + (0 : Int32)) (65535 : Int32) x2 r3.2).bind fun r4 => (f_K_setPart (r3.1 + (2 : Int32)) (65535 : Int32) x3 r4.2).bind fun r5 => (f_K_setPart (r3.1 + (4 : Int32)) (65535 : Int32) x4 r5.2).bind fun r6 => (f_K_setPart (r3.1 + (6 : Int32)) (65535 : Int32) (1 : Int32) r6.2).bind fun r7 => some (0, r7.2))
set_option maxHeartbeats 4000000 in
set_option maxRecDepth 100000 in
theorem w_I_make_0 {p : Program} {l : Launch} {e : Env} {s : State} {m : MethodId} {args : Array Value} {below : List Frame} {meth : Method} {c : Code} {A : Nat → Prop} {dC : Nat → ClassId} {dI : Nat → Nat → Nat} {dA : Nat → ClassId} {a : Nat → Nat} {z : Nat → Nat} (CX : fb_C p s m args meth c kc_I_make none 6 "FileTree$Inodes" (dC, dI) vcl (tX dA) A (zX z)) (o : Int32 × fb_S) (x1 : Int32) (x2 : Int32) (x3 : Int32) (x4 : Int32) (st : fb_S) (hF : f_I_make x1 x2 x3 x4 st = some o) : fb_G p l e (headSpec kw_I_make rm_I_make).room s m args below meth c (dC, dI) vcl (tX dA) (wX dA a) A none o.2 0 6 [(0, .ref (a 2)), (1, .int x1), (2, .int x2), (3, .int x3), (4, .int x4)] [] st := by
  intro H locs hP hD hS ls hl
  obtain ⟨hx, hb, hr, hml, hown, hts, hK, hA, hlocks, hZ⟩ := id CX
  unfold f_I_make at hF
  refine lv_aload_n hx hb kd_I_make_0 rfl (lv_at hl 0 rfl) ?_
  refine lv_iload_n hx hb kd_I_make_1 rfl (lv_at hl 1 rfl) ?_
  obtain ⟨r1, e_r1, hF⟩ := fb_ob hF
  refine fb_callV (As := [.int x1]) (rest := []) ⟨hx, hb, hml, hown, hts⟩ zX_mv hZ hK hP hD hS hA (c_I_isInode l dC dI dA a z x1 st r1 e_r1) (cwV 1 hts (gd_V q_108 ko_I_isInode) rfl rfl rfl kh_I_isInode ⟨Nat.le_of_ble_eq_true rfl, Nat.le_of_ble_eq_true rfl⟩) 2 2 rfl rfl rfl rfl hl.1 rfl (Nat.le_of_ble_eq_true rfl) kd_I_make_2 ⟨Nat.zero_le _, Nat.zero_le _⟩ (fun H locs hP hD hS => ?_)
  refine W.eq (g2 := F0 m 5 ls [.int r1.1]) rfl ?_
  refine lv_if_eq (tgt := 73) hx hb kd_I_make_5 (by decide) (fun c2 => ?_) (fun c2 => ?_)
  · rw [if_pos c2] at hF
    exact fb_rv (o := o) hx hb hr hlocks hK hP hD hS hF kd_I_make_73
  · rw [if_neg c2] at hF
    refine lv_aload_n hx hb kd_I_make_8 rfl (lv_at hl 0 rfl) ?_
    refine lv_iload_n hx hb kd_I_make_9 rfl (lv_at hl 1 rfl) ?_
    obtain ⟨r3, e_r3, hF⟩ := fb_ob hF
    refine fb_callV (As := [.int x1]) (rest := []) ⟨hx, hb, hml, hown, hts⟩ zX_mv hZ hK hP hD hS hA (c_I_placeOf l dC dI dA a z x1 r1.2 r3 e_r3) (cwV 1 hts (gd_V q_112 ko_I_placeOf) rfl rfl rfl kh_I_placeOf ⟨Nat.le_of_ble_eq_true rfl, Nat.le_of_ble_eq_true rfl⟩) 2 2 rfl rfl rfl rfl hl.1 rfl (Nat.le_of_ble_eq_true rfl) kd_I_make_10 ⟨Nat.zero_le _, Nat.zero_le _⟩ (fun H locs hP hD hS => ?_)
    refine W.eq (g2 := F0 m 13 ls [.int r3.1]) rfl ?_
    refine lv_istore (lv' := [(5, .int r3.1), (0, .ref (a 2)), (1, .int x1), (2, .int x2), (3, .int x3), (4, .int x4)]) hx hb kd_I_make_13 hl (by decide) rfl (fun ls hl => ?_)
    refine lv_aload_n hx hb kd_I_make_15 rfl (lv_at hl 1 rfl) ?_
    refine va_get (D := (dC, dI)) (ci := 2) (v := .ref (a 3)) (C := "FileTree$Inodes") (T := ft_I) (N := 2) hx hb hts fi_I hown hK hP 2 rfl rfl 0 (by decide) (hts _ q_41) (fun _ h9 => h9) rfl kd_I_make_16 ?_
    refine lv_iload hx hb kd_I_make_19 (lv_at hl 0 rfl) ?_
    refine lv_iconst (v := 0) hx hb kd_I_make_21 (by decide) ?_
    refine lv_iadd hx hb kd_I_make_22 ?_
    refine lv_ldc (v := 65535) hx hb hown (hts _ q_117) kd_I_make_23 ?_
    refine lv_iload_n hx hb kd_I_make_25 rfl (lv_at hl 3 rfl) ?_
    obtain ⟨r4, e_r4, hF⟩ := fb_ob hF
    refine fb_callV (As := [.int (r3.1 + (0 : Int32)), .int (65535 : Int32), .int x2]) (rest := []) ⟨hx, hb, hml, hown, hts⟩ zX_mv hZ hK hP hD hS hA (c_K_setPart l dC dI dA a z (r3.1 + (0 : Int32)) (65535 : Int32) x2 r3.2 r4 e_r4) (cwV 3 hts (gd_V q_118 ko_K_setPart) rfl rfl rfl kh_K_setPart ⟨Nat.le_of_ble_eq_true rfl, Nat.le_of_ble_eq_true rfl⟩) 1 3 rfl rfl rfl rfl hl.1 rfl (Nat.le_of_ble_eq_true rfl) kd_I_make_26 ⟨Nat.zero_le _, Nat.zero_le _⟩ (fun H locs hP hD hS => ?_)
    refine W.eq (g2 := F0 m 29 ls []) rfl ?_
    refine lv_aload_n hx hb kd_I_make_29 rfl (lv_at hl 1 rfl) ?_
    refine va_get (D := (dC, dI)) (ci := 2) (v := .ref (a 3)) (C := "FileTree$Inodes") (T := ft_I) (N := 2) hx hb hts fi_I hown hK hP 2 rfl rfl 0 (by decide) (hts _ q_41) (fun _ h9 => h9) rfl kd_I_make_30 ?_
    refine lv_iload hx hb kd_I_make_33 (lv_at hl 0 rfl) ?_
    refine lv_iconst (v := 2) hx hb kd_I_make_35 (by decide) ?_
    refine lv_iadd hx hb kd_I_make_36 ?_
    refine lv_ldc (v := 65535) hx hb hown (hts _ q_117) kd_I_make_37 ?_
    refine lv_iload_n hx hb kd_I_make_39 rfl (lv_at hl 4 rfl) ?_
    obtain ⟨r5, e_r5, hF⟩ := fb_ob hF
    refine fb_callV (As := [.int (r3.1 + (2 : Int32)), .int (65535 : Int32), .int x3]) (rest := []) ⟨hx, hb, hml, hown, hts⟩ zX_mv hZ hK hP hD hS hA (c_K_setPart l dC dI dA a z (r3.1 + (2 : Int32)) (65535 : Int32) x3 r4.2 r5 e_r5) (cwV 3 hts (gd_V q_118 ko_K_setPart) rfl rfl rfl kh_K_setPart ⟨Nat.le_of_ble_eq_true rfl, Nat.le_of_ble_eq_true rfl⟩) 1 3 rfl rfl rfl rfl hl.1 rfl (Nat.le_of_ble_eq_true rfl) kd_I_make_40 ⟨Nat.zero_le _, Nat.zero_le _⟩ (fun H locs hP hD hS => ?_)
    refine W.eq (g2 := F0 m 43 ls []) rfl ?_
    refine lv_aload_n hx hb kd_I_make_43 rfl (lv_at hl 1 rfl) ?_
    refine va_get (D := (dC, dI)) (ci := 2) (v := .ref (a 3)) (C := "FileTree$Inodes") (T := ft_I) (N := 2) hx hb hts fi_I hown hK hP 2 rfl rfl 0 (by decide) (hts _ q_41) (fun _ h9 => h9) rfl kd_I_make_44 ?_
    refine lv_iload hx hb kd_I_make_47 (lv_at hl 0 rfl) ?_
    refine lv_iconst (v := 4) hx hb kd_I_make_49 (by decide) ?_
    refine lv_iadd hx hb kd_I_make_50 ?_
    refine lv_ldc (v := 65535) hx hb hown (hts _ q_117) kd_I_make_51 ?_
    refine lv_iload hx hb kd_I_make_53 (lv_at hl 5 rfl) ?_
    obtain ⟨r6, e_r6, hF⟩ := fb_ob hF
    refine fb_callV (As := [.int (r3.1 + (4 : Int32)), .int (65535 : Int32), .int x4]) (rest := []) ⟨hx, hb, hml, hown, hts⟩ zX_mv hZ hK hP hD hS hA (c_K_setPart l dC dI dA a z (r3.1 + (4 : Int32)) (65535 : Int32) x4 r5.2 r6 e_r6) (cwV 3 hts (gd_V q_118 ko_K_setPart) rfl rfl rfl kh_K_setPart ⟨Nat.le_of_ble_eq_true rfl, Nat.le_of_ble_eq_true rfl⟩) 1 3 rfl rfl rfl rfl hl.1 rfl (Nat.le_of_ble_eq_true rfl) kd_I_make_55 ⟨Nat.zero_le _, Nat.zero_le _⟩ (fun H locs hP hD hS => ?_)
    refine W.eq (g2 := F0 m 58 ls []) rfl ?_
    refine lv_aload_n hx hb kd_I_make_58 rfl (lv_at hl 1 rfl) ?_
    refine va_get (D := (dC, dI)) (ci := 2) (v := .ref (a 3)) (C := "FileTree$Inodes") (T := ft_I) (N := 2) hx hb hts fi_I hown hK hP 2 rfl rfl 0 (by decide) (hts _ q_41) (fun _ h9 => h9) rfl kd_I_make_59 ?_
    refine lv_iload hx hb kd_I_make_62 (lv_at hl 0 rfl) ?_
    refine lv_bipush (v := 6) hx hb kd_I_make_64 (by decide) ?_
    refine lv_iadd hx hb kd_I_make_66 ?_
    refine lv_ldc (v := 65535) hx hb hown (hts _ q_117) kd_I_make_67 ?_
    refine lv_iconst (v := 1) hx hb kd_I_make_69 (by decide) ?_
    obtain ⟨r7, e_r7, hF⟩ := fb_ob hF
    refine fb_callV (As := [.int (r3.1 + (6 : Int32)), .int (65535 : Int32), .int (1 : Int32)]) (rest := []) ⟨hx, hb, hml, hown, hts⟩ zX_mv hZ hK hP hD hS hA (c_K_setPart l dC dI dA a z (r3.1 + (6 : Int32)) (65535 : Int32) (1 : Int32) r6.2 r7 e_r7) (cwV 3 hts (gd_V q_118 ko_K_setPart) rfl rfl rfl kh_K_setPart ⟨Nat.le_of_ble_eq_true rfl, Nat.le_of_ble_eq_true rfl⟩) 1 3 rfl rfl rfl rfl hl.1 rfl (Nat.le_of_ble_eq_true rfl) kd_I_make_70 ⟨Nat.zero_le _, Nat.zero_le _⟩ (fun H locs hP hD hS => ?_)
    refine W.eq (g2 := F0 m 73 ls []) rfl ?_
    exact fb_rv (o := o) hx hb hr hlocks hK hP hD hS hF kd_I_make_73
theorem c_I_make (l : Launch) (dC : Nat → ClassId) (dI : Nat → Nat → Nat) (dA : Nat → ClassId) (a : Nat → Nat) (z : Nat → Nat) (x1 : Int32) (x2 : Int32) (x3 : Int32) (x4 : Int32) (st : fb_S) (o : Int32 × fb_S) (h : f_I_make x1 x2 x3 x4 st = some o) : fb_M l ky_I_make kw_I_make rm_I_make (dC, dI) vcl (tX dA) (wX dA a) (zX z) [.ref (a 2), .int x1, .int x2, .int x3, .int x4] none st o.2 := fb_enter (by decide) rfl (Nat.le_of_ble_eq_true rfl) (fun p e s m below meth c A CX hP hD hS ls hl => w_I_make_0 CX o x1 x2 x3 x4 st h s.heap [] hP hD hS ls hl)
abbrev rm_I_kindOf : Room := { frames := 1, cells := 0, slots := 0, locals := 24 }
def f_I_kindOf (x1 : Int32) (st : fb_S) : Option (Int32 × fb_S) := (f_I_isInode x1 st).bind fun r1 => (if r1.1 = (0 : Int32) then some ((0 : Int32), r1.2) else (f_I_placeOf x1 r1.2).bind fun r3 => (f_K_partAt (r3.1 + (0 : Int32)) (65535 : Int32) r3.2).bind fun r4 => some (r4.1, r4.2))
set_option maxHeartbeats 4000000 in
set_option maxRecDepth 100000 in
theorem w_I_kindOf_0 {p : Program} {l : Launch} {e : Env} {s : State} {m : MethodId} {args : Array Value} {below : List Frame} {meth : Method} {c : Code} {A : Nat → Prop} {dC : Nat → ClassId} {dI : Nat → Nat → Nat} {dA : Nat → ClassId} {a : Nat → Nat} {z : Nat → Nat} (CX : fb_C p s m args meth c kc_I_kindOf (some .int) 2 "FileTree$Inodes" (dC, dI) vcl (tX dA) A (zX z)) (o : Int32 × fb_S) (x1 : Int32) (st : fb_S) (hF : f_I_kindOf x1 st = some o) : fb_G p l e (headSpec kw_I_kindOf rm_I_kindOf).room s m args below meth c (dC, dI) vcl (tX dA) (wX dA a) A (some (.int o.1)) o.2 0 2 [(0, .ref (a 2)), (1, .int x1)] [] st := by
  intro H locs hP hD hS ls hl
  obtain ⟨hx, hb, hr, hml, hown, hts, hK, hA, hlocks, hZ⟩ := id CX
  unfold f_I_kindOf at hF
  refine lv_aload_n hx hb kd_I_kindOf_0 rfl (lv_at hl 0 rfl) ?_
  refine lv_iload_n hx hb kd_I_kindOf_1 rfl (lv_at hl 1 rfl) ?_
  obtain ⟨r1, e_r1, hF⟩ := fb_ob hF
  refine fb_callV (As := [.int x1]) (rest := []) ⟨hx, hb, hml, hown, hts⟩ zX_mv hZ hK hP hD hS hA (c_I_isInode l dC dI dA a z x1 st r1 e_r1) (cwV 1 hts (gd_V q_108 ko_I_isInode) rfl rfl rfl kh_I_isInode ⟨Nat.le_of_ble_eq_true rfl, Nat.le_of_ble_eq_true rfl⟩) 2 2 rfl rfl rfl rfl hl.1 rfl (Nat.le_of_ble_eq_true rfl) kd_I_kindOf_2 ⟨Nat.zero_le _, Nat.zero_le _⟩ (fun H locs hP hD hS => ?_)
  refine W.eq (g2 := F0 m 5 ls [.int r1.1]) rfl ?_
  refine lv_if_eq (tgt := 27) hx hb kd_I_kindOf_5 (by decide) (fun c2 => ?_) (fun c2 => ?_)
  · rw [if_pos c2] at hF
    refine lv_iconst (v := 0) hx hb kd_I_kindOf_27 (by decide) ?_
    exact fb_ri (o := o) hx hb hr hlocks hK hP hD hS hF kd_I_kindOf_28
  · rw [if_neg c2] at hF
    refine lv_aload_n hx hb kd_I_kindOf_8 rfl (lv_at hl 0 rfl) ?_
    refine va_get (D := (dC, dI)) (ci := 2) (v := .ref (a 3)) (C := "FileTree$Inodes") (T := ft_I) (N := 2) hx hb hts fi_I hown hK hP 2 rfl rfl 0 (by decide) (hts _ q_41) (fun _ h9 => h9) rfl kd_I_kindOf_9 ?_
    refine lv_aload_n hx hb kd_I_kindOf_12 rfl (lv_at hl 0 rfl) ?_
    refine lv_iload_n hx hb kd_I_kindOf_13 rfl (lv_at hl 1 rfl) ?_
    obtain ⟨r3, e_r3, hF⟩ := fb_ob hF
    refine fb_callV (As := [.int x1]) (rest := [.ref (a 3)]) ⟨hx, hb, hml, hown, hts⟩ zX_mv hZ hK hP hD hS hA (c_I_placeOf l dC dI dA a z x1 r1.2 r3 e_r3) (cwV 1 hts (gd_V q_112 ko_I_placeOf) rfl rfl rfl kh_I_placeOf ⟨Nat.le_of_ble_eq_true rfl, Nat.le_of_ble_eq_true rfl⟩) 2 2 rfl rfl rfl rfl hl.1 rfl (Nat.le_of_ble_eq_true rfl) kd_I_kindOf_14 ⟨Nat.zero_le _, Nat.zero_le _⟩ (fun H locs hP hD hS => ?_)
    refine W.eq (g2 := F0 m 17 ls [.int r3.1, .ref (a 3)]) rfl ?_
    refine lv_iconst (v := 0) hx hb kd_I_kindOf_17 (by decide) ?_
    refine lv_iadd hx hb kd_I_kindOf_18 ?_
    refine lv_ldc (v := 65535) hx hb hown (hts _ q_117) kd_I_kindOf_19 ?_
    obtain ⟨r4, e_r4, hF⟩ := fb_ob hF
    refine fb_callV (As := [.int (r3.1 + (0 : Int32)), .int (65535 : Int32)]) (rest := []) ⟨hx, hb, hml, hown, hts⟩ zX_mv hZ hK hP hD hS hA (c_K_partAt l dC dI dA a z (r3.1 + (0 : Int32)) (65535 : Int32) r3.2 r4 e_r4) (cwV 2 hts (gd_V q_141 ko_K_partAt) rfl rfl rfl kh_K_partAt ⟨Nat.le_of_ble_eq_true rfl, Nat.le_of_ble_eq_true rfl⟩) 1 3 rfl rfl rfl rfl hl.1 rfl (Nat.le_of_ble_eq_true rfl) kd_I_kindOf_21 ⟨Nat.zero_le _, Nat.zero_le _⟩ (fun H locs hP hD hS => ?_)
    refine W.eq (g2 := F0 m 24 ls [.int r4.1]) rfl ?_
    refine lv_goto (tgt := 28) hx hb kd_I_kindOf_24 (by decide) ?_
    exact fb_ri (o := o) hx hb hr hlocks hK hP hD hS hF kd_I_kindOf_28
theorem c_I_kindOf (l : Launch) (dC : Nat → ClassId) (dI : Nat → Nat → Nat) (dA : Nat → ClassId) (a : Nat → Nat) (z : Nat → Nat) (x1 : Int32) (st : fb_S) (o : Int32 × fb_S) (h : f_I_kindOf x1 st = some o) : fb_M l ky_I_kindOf kw_I_kindOf rm_I_kindOf (dC, dI) vcl (tX dA) (wX dA a) (zX z) [.ref (a 2), .int x1] (some (.int o.1)) st o.2 := fb_enter (by decide) rfl (Nat.le_of_ble_eq_true rfl) (fun p e s m below meth c A CX hP hD hS ls hl => w_I_kindOf_0 CX o x1 st h s.heap [] hP hD hS ls hl)
abbrev rm_K_numberAt : Room := { frames := 0, cells := 0, slots := 0, locals := 0 }
def f_K_numberAt (x1 : Int32) (st : fb_S) : Option (Int32 × fb_S) := (if (x1 >>> ((2 : Int32) &&& 31)) < (0 : Int32) then some ((0 : Int32), st) else (if (131072 : Int32) ≤ (x1 >>> ((2 : Int32) &&& 31)) then some ((0 : Int32), st) else (fb_ld (st 0) 131072 (x1 >>> ((2 : Int32) &&& 31))).bind fun v3 => some (v3, st)))
set_option maxHeartbeats 4000000 in
set_option maxRecDepth 100000 in
theorem w_K_numberAt_0 {p : Program} {l : Launch} {e : Env} {s : State} {m : MethodId} {args : Array Value} {below : List Frame} {meth : Method} {c : Code} {A : Nat → Prop} {dC : Nat → ClassId} {dI : Nat → Nat → Nat} {dA : Nat → ClassId} {a : Nat → Nat} {z : Nat → Nat} (CX : fb_C p s m args meth c kc_K_numberAt (some .int) 3 "FileTree$Disk" (dC, dI) vcl (tX dA) A (zX z)) (o : Int32 × fb_S) (x1 : Int32) (st : fb_S) (hF : f_K_numberAt x1 st = some o) : fb_G p l e (headSpec kw_K_numberAt rm_K_numberAt).room s m args below meth c (dC, dI) vcl (tX dA) (wX dA a) A (some (.int o.1)) o.2 0 3 [(0, .ref (a 3)), (1, .int x1)] [] st := by
  intro H locs hP hD hS ls hl
  obtain ⟨hx, hb, hr, hml, hown, hts, hK, hA, hlocks, hZ⟩ := id CX
  unfold f_K_numberAt at hF
  refine lv_iload_n hx hb kd_K_numberAt_0 rfl (lv_at hl 1 rfl) ?_
  refine lv_iconst (v := 2) hx hb kd_K_numberAt_1 (by decide) ?_
  refine lv_ishr hx hb kd_K_numberAt_2 ?_
  refine lv_istore_n (lv' := [(2, .int (x1 >>> ((2 : Int32) &&& 31))), (0, .ref (a 3)), (1, .int x1)]) hx hb kd_K_numberAt_3 rfl hl (by decide) rfl (fun ls hl => ?_)
  refine lv_iload_n hx hb kd_K_numberAt_4 rfl (lv_at hl 0 rfl) ?_
  refine lv_if_lt (tgt := 26) hx hb kd_K_numberAt_5 (by decide) (fun c1 => ?_) (fun c1 => ?_)
  · rw [if_pos c1] at hF
    refine lv_iconst (v := 0) hx hb kd_K_numberAt_26 (by decide) ?_
    exact fb_ri (o := o) hx hb hr hlocks hK hP hD hS hF kd_K_numberAt_27
  · rw [if_neg c1] at hF
    refine lv_iload_n hx hb kd_K_numberAt_8 rfl (lv_at hl 0 rfl) ?_
    refine lv_aload_n hx hb kd_K_numberAt_9 rfl (lv_at hl 1 rfl) ?_
    refine va_get (D := (dC, dI)) (ci := 1) (v := .ref (a 5)) (C := "FileTree$Disk") (T := ft_K) (N := 1) hx hb hts fi_K hown hK hP 3 rfl rfl 0 (by decide) (hts _ q_36) (fun _ h9 => h9) rfl kd_K_numberAt_10 ?_
    refine va_alen (v := 131072) hx hb hK hP 5 0 rfl rfl rfl kd_K_numberAt_13 ?_
    refine lv_icmp_ge (tgt := 26) hx hb kd_K_numberAt_14 (by decide) (fun c2 => ?_) (fun c2 => ?_)
    · rw [if_pos c2] at hF
      refine lv_iconst (v := 0) hx hb kd_K_numberAt_26 (by decide) ?_
      exact fb_ri (o := o) hx hb hr hlocks hK hP hD hS hF kd_K_numberAt_27
    · rw [if_neg c2] at hF
      refine lv_aload_n hx hb kd_K_numberAt_17 rfl (lv_at hl 1 rfl) ?_
      refine va_get (D := (dC, dI)) (ci := 1) (v := .ref (a 5)) (C := "FileTree$Disk") (T := ft_K) (N := 1) hx hb hts fi_K hown hK hP 3 rfl rfl 0 (by decide) (hts _ q_36) (fun _ h9 => h9) rfl kd_K_numberAt_18 ?_
      refine lv_iload_n hx hb kd_K_numberAt_21 rfl (lv_at hl 0 rfl) ?_
      obtain ⟨v3, e_v3, hF⟩ := fb_ob hF
      refine fb_iald hx hb hK hP 5 0 rfl rfl e_v3 kd_K_numberAt_22 ?_
      refine lv_goto (tgt := 27) hx hb kd_K_numberAt_23 (by decide) ?_
      exact fb_ri (o := o) hx hb hr hlocks hK hP hD hS hF kd_K_numberAt_27
theorem c_K_numberAt (l : Launch) (dC : Nat → ClassId) (dI : Nat → Nat → Nat) (dA : Nat → ClassId) (a : Nat → Nat) (z : Nat → Nat) (x1 : Int32) (st : fb_S) (o : Int32 × fb_S) (h : f_K_numberAt x1 st = some o) : fb_M l ky_K_numberAt kw_K_numberAt rm_K_numberAt (dC, dI) vcl (tX dA) (wX dA a) (zX z) [.ref (a 3), .int x1] (some (.int o.1)) st o.2 := fb_enter (by decide) rfl (Nat.le_of_ble_eq_true rfl) (fun p e s m below meth c A CX hP hD hS ls hl => w_K_numberAt_0 CX o x1 st h s.heap [] hP hD hS ls hl)
