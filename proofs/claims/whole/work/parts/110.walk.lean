abbrev rm_T_free : Room := { frames := 2, cells := 0, slots := 0, locals := 44 }
def f_T_free (st : fb_S) : Option (Int32 × fb_S) := (f_K_freeBlocks st).bind fun r1 => some (r1.1, r1.2)
set_option maxHeartbeats 4000000 in
set_option maxRecDepth 100000 in
theorem w_T_free_0 {p : Program} {l : Launch} {e : Env} {s : State} {m : MethodId} {args : Array Value} {below : List Frame} {meth : Method} {c : Code} {A : Nat → Prop} {dC : Nat → ClassId} {dI : Nat → Nat → Nat} {dA : Nat → ClassId} {a : Nat → Nat} {z : Nat → Nat} (CX : fb_C p s m args meth c kc_T_free (some .int) 1 "FileTree" (dC, dI) vcl (tX dA) A (zX z)) (o : Int32 × fb_S) (st : fb_S) (hF : f_T_free st = some o) : fb_G p l e (headSpec kw_T_free rm_T_free).room s m args below meth c (dC, dI) vcl (tX dA) (wX dA a) A (some (.int o.1)) o.2 0 1 [(0, .ref (a 0))] [] st := by
  intro H locs hP hD hS ls hl
  obtain ⟨hx, hb, hr, hml, hown, hts, hK, hA, hlocks, hZ⟩ := id CX
  unfold f_T_free at hF
  refine lv_aload_n hx hb kd_T_free_0 rfl (lv_at hl 0 rfl) ?_
  refine va_get (D := (dC, dI)) (ci := 4) (v := .ref (a 3)) (C := "FileTree") (T := ft_T) (N := 5) hx hb hts fi_T hown hK hP 0 rfl rfl 2 (by decide) (hts _ q_209) (fun _ h9 => h9) rfl kd_T_free_1 ?_
  obtain ⟨r1, e_r1, hF⟩ := fb_ob hF
  refine fb_callV (As := []) (rest := []) ⟨hx, hb, hml, hown, hts⟩ zX_mv hZ hK hP hD hS hA (c_K_freeBlocks l dC dI dA a z st r1 e_r1) (cwV 0 hts (gd_V q_416 ko_K_freeBlocks) rfl rfl rfl kh_K_freeBlocks ⟨Nat.le_of_ble_eq_true rfl, Nat.le_of_ble_eq_true rfl⟩) 1 3 rfl rfl rfl rfl hl.1 rfl (Nat.le_of_ble_eq_true rfl) kd_T_free_4 ⟨Nat.zero_le _, Nat.zero_le _⟩ (fun H locs hP hD hS => ?_)
  refine W.eq (g2 := F0 m 7 ls [.int r1.1]) rfl ?_
  exact fb_ri (o := o) hx hb hr hlocks hK hP hD hS hF kd_T_free_7
theorem c_T_free (l : Launch) (dC : Nat → ClassId) (dI : Nat → Nat → Nat) (dA : Nat → ClassId) (a : Nat → Nat) (z : Nat → Nat) (st : fb_S) (o : Int32 × fb_S) (h : f_T_free st = some o) : fb_M l ky_T_free kw_T_free rm_T_free (dC, dI) vcl (tX dA) (wX dA a) (zX z) [.ref (a 0)] (some (.int o.1)) st o.2 := fb_enter (by decide) rfl (Nat.le_of_ble_eq_true rfl) (fun p e s m below meth c A CX hP hD hS ls hl => w_T_free_0 CX o st h s.heap [] hP hD hS ls hl)
abbrev rm_T_forget : Room := { frames := 5, cells := 0, slots := 0, locals := 114 }
def b_T_forget_41 (k4 : Int32 → Int32 → fb_S → Option (Int32 × fb_S)) (x1 : Int32) (x2 : Int32) (st : fb_S) : Option (Int32 × fb_S) := k4 x1 (x2 + (1 : Int32)) st
set_option maxHeartbeats 4000000 in
set_option maxRecDepth 100000 in
theorem w_T_forget_41 {p : Program} {l : Launch} {e : Env} {s : State} {m : MethodId} {args : Array Value} {below : List Frame} {meth : Method} {c : Code} {A : Nat → Prop} {dC : Nat → ClassId} {dI : Nat → Nat → Nat} {dA : Nat → ClassId} {a : Nat → Nat} {z : Nat → Nat} (CX : fb_C p s m args meth c kc_T_forget (some .int) 3 "FileTree" (dC, dI) vcl (tX dA) A (zX z)) (o : Int32 × fb_S) (k4 : Int32 → Int32 → fb_S → Option (Int32 × fb_S)) (hk4 : ∀ (x1 : Int32) (x2 : Int32) (st : fb_S), k4 x1 x2 st = some o → fb_G p l e (headSpec kw_T_forget rm_T_forget).room s m args below meth c (dC, dI) vcl (tX dA) (wX dA a) A (some (.int o.1)) o.2 4 3 [(0, .ref (a 0)), (1, .int x1), (2, .int x2)] [] st) (x1 : Int32) (x2 : Int32) (st : fb_S) (hF : b_T_forget_41 k4 x1 x2 st = some o) : fb_G p l e (headSpec kw_T_forget rm_T_forget).room s m args below meth c (dC, dI) vcl (tX dA) (wX dA a) A (some (.int o.1)) o.2 41 3 [(0, .ref (a 0)), (1, .int x1), (2, .int x2)] [] st := by
  intro H locs hP hD hS ls hl
  obtain ⟨hx, hb, hr, hml, hown, hts, hK, hA, hlocks, hZ⟩ := id CX
  unfold b_T_forget_41 at hF
  refine lv_iinc (v := x2 + (1 : Int32)) (lv' := [(2, .int (x2 + (1 : Int32))), (0, .ref (a 0)), (1, .int x1)]) hx hb kd_T_forget_41 hl (k := 2) rfl rfl (by decide) rfl (fun ls hl => ?_)
  refine lv_goto (tgt := 4) hx hb kd_T_forget_44 (by decide) ?_
  exact hk4 x1 (x2 + (1 : Int32)) st hF H locs hP hD hS ls (lv_sub hl [1, 2, 0] rfl)
def b_T_forget_4 (k4 : Int32 → Int32 → fb_S → Option (Int32 × fb_S)) (x1 : Int32) (x2 : Int32) (st : fb_S) : Option (Int32 × fb_S) := (if (64 : Int32) ≤ x2 then some (x1, st) else (f_I_heldOf x2 st).bind fun r2 => (f_I_addHeld x2 (-r2.1) r2.2).bind fun r3 => (f_I_freeIfLeft x2 r3.2).bind fun r4 => (if r4.1 = (0 : Int32) then b_T_forget_41 k4 x1 x2 r4.2 else b_T_forget_41 k4 (x1 + (1 : Int32)) x2 r4.2))
set_option maxHeartbeats 4000000 in
set_option maxRecDepth 100000 in
theorem w_T_forget_4 {p : Program} {l : Launch} {e : Env} {s : State} {m : MethodId} {args : Array Value} {below : List Frame} {meth : Method} {c : Code} {A : Nat → Prop} {dC : Nat → ClassId} {dI : Nat → Nat → Nat} {dA : Nat → ClassId} {a : Nat → Nat} {z : Nat → Nat} (CX : fb_C p s m args meth c kc_T_forget (some .int) 3 "FileTree" (dC, dI) vcl (tX dA) A (zX z)) (o : Int32 × fb_S) (k4 : Int32 → Int32 → fb_S → Option (Int32 × fb_S)) (hk4 : ∀ (x1 : Int32) (x2 : Int32) (st : fb_S), k4 x1 x2 st = some o → fb_G p l e (headSpec kw_T_forget rm_T_forget).room s m args below meth c (dC, dI) vcl (tX dA) (wX dA a) A (some (.int o.1)) o.2 4 3 [(0, .ref (a 0)), (1, .int x1), (2, .int x2)] [] st) (x1 : Int32) (x2 : Int32) (st : fb_S) (hF : b_T_forget_4 k4 x1 x2 st = some o) : fb_G p l e (headSpec kw_T_forget rm_T_forget).room s m args below meth c (dC, dI) vcl (tX dA) (wX dA a) A (some (.int o.1)) o.2 4 3 [(0, .ref (a 0)), (1, .int x1), (2, .int x2)] [] st := by
  intro H locs hP hD hS ls hl
  obtain ⟨hx, hb, hr, hml, hown, hts, hK, hA, hlocks, hZ⟩ := id CX
  unfold b_T_forget_4 at hF
  refine lv_iload_n hx hb kd_T_forget_4 rfl (lv_at hl 2 rfl) ?_
  refine lv_bipush (v := 64) hx hb kd_T_forget_5 (by decide) ?_
  refine lv_icmp_ge (tgt := 47) hx hb kd_T_forget_7 (by decide) (fun c1 => ?_) (fun c1 => ?_)
  · rw [if_pos c1] at hF
    refine lv_iload_n hx hb kd_T_forget_47 rfl (lv_at hl 1 rfl) ?_
    exact fb_ri (o := o) hx hb hr hlocks hK hP hD hS hF kd_T_forget_48
  · rw [if_neg c1] at hF
    refine lv_aload_n hx hb kd_T_forget_10 rfl (lv_at hl 0 rfl) ?_
    refine va_get (D := (dC, dI)) (ci := 4) (v := .ref (a 2)) (C := "FileTree") (T := ft_T) (N := 5) hx hb hts fi_T hown hK hP 0 rfl rfl 1 (by decide) (hts _ q_208) (fun _ h9 => h9) rfl kd_T_forget_11 ?_
    refine lv_iload_n hx hb kd_T_forget_14 rfl (lv_at hl 2 rfl) ?_
    refine lv_aload_n hx hb kd_T_forget_15 rfl (lv_at hl 0 rfl) ?_
    refine va_get (D := (dC, dI)) (ci := 4) (v := .ref (a 2)) (C := "FileTree") (T := ft_T) (N := 5) hx hb hts fi_T hown hK hP 0 rfl rfl 1 (by decide) (hts _ q_208) (fun _ h9 => h9) rfl kd_T_forget_16 ?_
    refine lv_iload_n hx hb kd_T_forget_19 rfl (lv_at hl 2 rfl) ?_
    obtain ⟨r2, e_r2, hF⟩ := fb_ob hF
    refine fb_callV (As := [.int x2]) (rest := [.int x2, .ref (a 2)]) ⟨hx, hb, hml, hown, hts⟩ zX_mv hZ hK hP hD hS hA (c_I_heldOf l dC dI dA a z x2 st r2 e_r2) (cwV 1 hts (gd_V q_363 ko_I_heldOf) rfl rfl rfl kh_I_heldOf ⟨Nat.le_of_ble_eq_true rfl, Nat.le_of_ble_eq_true rfl⟩) 2 2 rfl rfl rfl rfl hl.1 rfl (Nat.le_of_ble_eq_true rfl) kd_T_forget_20 ⟨Nat.zero_le _, Nat.zero_le _⟩ (fun H locs hP hD hS => ?_)
    refine W.eq (g2 := F0 m 23 ls [.int r2.1, .int x2, .ref (a 2)]) rfl ?_
    refine lv_ineg hx hb kd_T_forget_23 ?_
    obtain ⟨r3, e_r3, hF⟩ := fb_ob hF
    refine fb_callV (As := [.int x2, .int (-r2.1)]) (rest := []) ⟨hx, hb, hml, hown, hts⟩ zX_mv hZ hK hP hD hS hA (c_I_addHeld l dC dI dA a z x2 (-r2.1) r2.2 r3 e_r3) (cwV 2 hts (gd_V q_355 ko_I_addHeld) rfl rfl rfl kh_I_addHeld ⟨Nat.le_of_ble_eq_true rfl, Nat.le_of_ble_eq_true rfl⟩) 2 2 rfl rfl rfl rfl hl.1 rfl (Nat.le_of_ble_eq_true rfl) kd_T_forget_24 ⟨Nat.zero_le _, Nat.zero_le _⟩ (fun H locs hP hD hS => ?_)
    refine W.eq (g2 := F0 m 27 ls []) rfl ?_
    refine lv_aload_n hx hb kd_T_forget_27 rfl (lv_at hl 0 rfl) ?_
    refine va_get (D := (dC, dI)) (ci := 4) (v := .ref (a 2)) (C := "FileTree") (T := ft_T) (N := 5) hx hb hts fi_T hown hK hP 0 rfl rfl 1 (by decide) (hts _ q_208) (fun _ h9 => h9) rfl kd_T_forget_28 ?_
    refine lv_iload_n hx hb kd_T_forget_31 rfl (lv_at hl 2 rfl) ?_
    obtain ⟨r4, e_r4, hF⟩ := fb_ob hF
    refine fb_callV (As := [.int x2]) (rest := []) ⟨hx, hb, hml, hown, hts⟩ zX_mv hZ hK hP hD hS hA (c_I_freeIfLeft l dC dI dA a z x2 r3.2 r4 e_r4) (cwV 1 hts (gd_V q_334 ko_I_freeIfLeft) rfl rfl rfl kh_I_freeIfLeft ⟨Nat.le_of_ble_eq_true rfl, Nat.le_of_ble_eq_true rfl⟩) 2 2 rfl rfl rfl rfl hl.1 rfl (Nat.le_of_ble_eq_true rfl) kd_T_forget_32 ⟨Nat.zero_le _, Nat.zero_le _⟩ (fun H locs hP hD hS => ?_)
    refine W.eq (g2 := F0 m 35 ls [.int r4.1]) rfl ?_
    refine lv_if_eq (tgt := 41) hx hb kd_T_forget_35 (by decide) (fun c5 => ?_) (fun c5 => ?_)
    · rw [if_pos c5] at hF
      exact w_T_forget_41 CX o k4 hk4 x1 x2 r4.2 hF H locs hP hD hS ls (lv_sub hl [0, 1, 2] rfl)
    · rw [if_neg c5] at hF
      refine lv_iinc (v := x1 + (1 : Int32)) (lv' := [(1, .int (x1 + (1 : Int32))), (0, .ref (a 0)), (2, .int x2)]) hx hb kd_T_forget_38 hl (k := 1) rfl rfl (by decide) rfl (fun ls hl => ?_)
      exact w_T_forget_41 CX o k4 hk4 (x1 + (1 : Int32)) x2 r4.2 hF H locs hP hD hS ls (lv_sub hl [1, 0, 2] rfl)
def l_T_forget_4 : Nat → Int32 → Int32 → fb_S → Option (Int32 × fb_S)
  | 0 => fun _ _ _ => none
  | n + 1 => b_T_forget_4 (l_T_forget_4 n)
theorem v_T_forget_4 {p : Program} {l : Launch} {e : Env} {s : State} {m : MethodId} {args : Array Value} {below : List Frame} {meth : Method} {c : Code} {A : Nat → Prop} {dC : Nat → ClassId} {dI : Nat → Nat → Nat} {dA : Nat → ClassId} {a : Nat → Nat} {z : Nat → Nat} (CX : fb_C p s m args meth c kc_T_forget (some .int) 3 "FileTree" (dC, dI) vcl (tX dA) A (zX z)) (o : Int32 × fb_S) (n : Nat) : ∀ (x1 : Int32) (x2 : Int32) (st : fb_S), l_T_forget_4 n x1 x2 st = some o → fb_G p l e (headSpec kw_T_forget rm_T_forget).room s m args below meth c (dC, dI) vcl (tX dA) (wX dA a) A (some (.int o.1)) o.2 4 3 [(0, .ref (a 0)), (1, .int x1), (2, .int x2)] [] st := by
  induction n with
  | zero => intro x1 x2 st hF; cases hF
  | succ n ih => intro x1 x2 st hF; exact w_T_forget_4 CX o (l_T_forget_4 n) ih x1 x2 st hF
def f_T_forget (st : fb_S) : Option (Int32 × fb_S) := l_T_forget_4 fb_n (0 : Int32) (0 : Int32) st
set_option maxHeartbeats 4000000 in
set_option maxRecDepth 100000 in
theorem w_T_forget_0 {p : Program} {l : Launch} {e : Env} {s : State} {m : MethodId} {args : Array Value} {below : List Frame} {meth : Method} {c : Code} {A : Nat → Prop} {dC : Nat → ClassId} {dI : Nat → Nat → Nat} {dA : Nat → ClassId} {a : Nat → Nat} {z : Nat → Nat} (CX : fb_C p s m args meth c kc_T_forget (some .int) 3 "FileTree" (dC, dI) vcl (tX dA) A (zX z)) (o : Int32 × fb_S) (st : fb_S) (hF : f_T_forget st = some o) : fb_G p l e (headSpec kw_T_forget rm_T_forget).room s m args below meth c (dC, dI) vcl (tX dA) (wX dA a) A (some (.int o.1)) o.2 0 3 [(0, .ref (a 0))] [] st := by
  intro H locs hP hD hS ls hl
  obtain ⟨hx, hb, hr, hml, hown, hts, hK, hA, hlocks, hZ⟩ := id CX
  unfold f_T_forget at hF
  refine lv_iconst (v := 0) hx hb kd_T_forget_0 (by decide) ?_
  refine lv_istore_n (lv' := [(1, .int (0 : Int32)), (0, .ref (a 0))]) hx hb kd_T_forget_1 rfl hl (by decide) rfl (fun ls hl => ?_)
  refine lv_iconst (v := 0) hx hb kd_T_forget_2 (by decide) ?_
  refine lv_istore_n (lv' := [(2, .int (0 : Int32)), (1, .int (0 : Int32)), (0, .ref (a 0))]) hx hb kd_T_forget_3 rfl hl (by decide) rfl (fun ls hl => ?_)
  exact v_T_forget_4 CX o fb_n (0 : Int32) (0 : Int32) st hF H locs hP hD hS ls (lv_sub hl [2, 1, 0] rfl)
theorem c_T_forget (l : Launch) (dC : Nat → ClassId) (dI : Nat → Nat → Nat) (dA : Nat → ClassId) (a : Nat → Nat) (z : Nat → Nat) (st : fb_S) (o : Int32 × fb_S) (h : f_T_forget st = some o) : fb_M l ky_T_forget kw_T_forget rm_T_forget (dC, dI) vcl (tX dA) (wX dA a) (zX z) [.ref (a 0)] (some (.int o.1)) st o.2 := fb_enter (by decide) rfl (Nat.le_of_ble_eq_true rfl) (fun p e s m below meth c A CX hP hD hS ls hl => w_T_forget_0 CX o st h s.heap [] hP hD hS ls hl)
abbrev rm_T_fill : Room := { frames := 0, cells := 0, slots := 0, locals := 0 }
def b_T_fill_29 (k29 : Int32 → Int32 → Int32 → Int32 → fb_S → Option (Int32 × fb_S)) (x1 : Int32) (x2 : Int32) (x3 : Int32) (x4 : Int32) (st : fb_S) : Option (Int32 × fb_S) := (if x2 ≤ x4 then fb_rz (1 : Int32) st else (fb_st st 5 3072 (x1 + x4) (fb_b (fb_b (x3 + x4)))).bind fun s2 => k29 x1 x2 x3 (x4 + (1 : Int32)) s2)
set_option maxHeartbeats 4000000 in
set_option maxRecDepth 100000 in
theorem w_T_fill_29 {p : Program} {l : Launch} {e : Env} {s : State} {m : MethodId} {args : Array Value} {below : List Frame} {meth : Method} {c : Code} {A : Nat → Prop} {dC : Nat → ClassId} {dI : Nat → Nat → Nat} {dA : Nat → ClassId} {a : Nat → Nat} {z : Nat → Nat} (CX : fb_C p s m args meth c kc_T_fill (some .boolean) 5 "FileTree" (dC, dI) vcl (tX dA) A (zX z)) (o : Int32 × fb_S) (k29 : Int32 → Int32 → Int32 → Int32 → fb_S → Option (Int32 × fb_S)) (hk29 : ∀ (x1 : Int32) (x2 : Int32) (x3 : Int32) (x4 : Int32) (st : fb_S), k29 x1 x2 x3 x4 st = some o → fb_G p l e (headSpec kw_T_fill rm_T_fill).room s m args below meth c (dC, dI) vcl (tX dA) (wX dA a) A (some (.int o.1)) o.2 29 5 [(0, .ref (a 0)), (1, .int x1), (2, .int x2), (3, .int x3), (4, .int x4)] [] st) (x1 : Int32) (x2 : Int32) (x3 : Int32) (x4 : Int32) (st : fb_S) (hF : b_T_fill_29 k29 x1 x2 x3 x4 st = some o) : fb_G p l e (headSpec kw_T_fill rm_T_fill).room s m args below meth c (dC, dI) vcl (tX dA) (wX dA a) A (some (.int o.1)) o.2 29 5 [(0, .ref (a 0)), (1, .int x1), (2, .int x2), (3, .int x3), (4, .int x4)] [] st := by
  intro H locs hP hD hS ls hl
  obtain ⟨hx, hb, hr, hml, hown, hts, hK, hA, hlocks, hZ⟩ := id CX
  unfold b_T_fill_29 at hF
  refine lv_iload hx hb kd_T_fill_29 (lv_at hl 4 rfl) ?_
  refine lv_iload_n hx hb kd_T_fill_31 rfl (lv_at hl 2 rfl) ?_
  refine lv_icmp_ge (tgt := 55) hx hb kd_T_fill_32 (by decide) (fun c1 => ?_) (fun c1 => ?_)
  · rw [if_pos c1] at hF
    refine lv_iconst (v := 1) hx hb kd_T_fill_55 (by decide) ?_
    exact fb_rb (o := o) hx hb hr hlocks hK hP hD hS hF kd_T_fill_56
  · rw [if_neg c1] at hF
    refine lv_aload_n hx hb kd_T_fill_35 rfl (lv_at hl 0 rfl) ?_
    refine va_get (D := (dC, dI)) (ci := 4) (v := .ref (a 10)) (C := "FileTree") (T := ft_T) (N := 5) hx hb hts fi_T hown hK hP 0 rfl rfl 4 (by decide) (hts _ q_211) (fun _ h9 => h9) rfl kd_T_fill_36 ?_
    refine lv_iload_n hx hb kd_T_fill_39 rfl (lv_at hl 1 rfl) ?_
    refine lv_iload hx hb kd_T_fill_40 (lv_at hl 4 rfl) ?_
    refine lv_iadd hx hb kd_T_fill_42 ?_
    refine lv_iload_n hx hb kd_T_fill_43 rfl (lv_at hl 3 rfl) ?_
    refine lv_iload hx hb kd_T_fill_44 (lv_at hl 4 rfl) ?_
    refine lv_iadd hx hb kd_T_fill_46 ?_
    refine lv_i2b (v := fb_b (x3 + x4)) hx hb kd_T_fill_47 rfl ?_
    obtain ⟨s2, e_s2, hF⟩ := fb_ob hF
    refine fb_bast (wx := (wX dA a)) (k := 5) hx hb hK hP hD hS 10 1 rfl rfl e_s2 (fun _ => rfl) kd_T_fill_48 (fun H locs hP hD hS => ?_)
    refine lv_iinc (v := x4 + (1 : Int32)) (lv' := [(4, .int (x4 + (1 : Int32))), (0, .ref (a 0)), (1, .int x1), (2, .int x2), (3, .int x3)]) hx hb kd_T_fill_49 hl (k := 4) rfl rfl (by decide) rfl (fun ls hl => ?_)
    refine lv_goto (tgt := 29) hx hb kd_T_fill_52 (by decide) ?_
    exact hk29 x1 x2 x3 (x4 + (1 : Int32)) s2 hF H locs hP hD hS ls (lv_sub hl [1, 2, 3, 4, 0] rfl)
def l_T_fill_29 : Nat → Int32 → Int32 → Int32 → Int32 → fb_S → Option (Int32 × fb_S)
  | 0 => fun _ _ _ _ _ => none
  | n + 1 => b_T_fill_29 (l_T_fill_29 n)
theorem v_T_fill_29 {p : Program} {l : Launch} {e : Env} {s : State} {m : MethodId} {args : Array Value} {below : List Frame} {meth : Method} {c : Code} {A : Nat → Prop} {dC : Nat → ClassId} {dI : Nat → Nat → Nat} {dA : Nat → ClassId} {a : Nat → Nat} {z : Nat → Nat} (CX : fb_C p s m args meth c kc_T_fill (some .boolean) 5 "FileTree" (dC, dI) vcl (tX dA) A (zX z)) (o : Int32 × fb_S) (n : Nat) : ∀ (x1 : Int32) (x2 : Int32) (x3 : Int32) (x4 : Int32) (st : fb_S), l_T_fill_29 n x1 x2 x3 x4 st = some o → fb_G p l e (headSpec kw_T_fill rm_T_fill).room s m args below meth c (dC, dI) vcl (tX dA) (wX dA a) A (some (.int o.1)) o.2 29 5 [(0, .ref (a 0)), (1, .int x1), (2, .int x2), (3, .int x3), (4, .int x4)] [] st := by
  induction n with
  | zero => intro x1 x2 x3 x4 st hF; cases hF
  | succ n ih => intro x1 x2 x3 x4 st hF; exact w_T_fill_29 CX o (l_T_fill_29 n) ih x1 x2 x3 x4 st hF
def f_T_fill (x1 : Int32) (x2 : Int32) (x3 : Int32) (st : fb_S) : Option (Int32 × fb_S) := (if x1 < (0 : Int32) then fb_rz (0 : Int32) st else (if (3072 : Int32) < x1 then fb_rz (0 : Int32) st else (if x2 < (0 : Int32) then fb_rz (0 : Int32) st else (if x2 ≤ ((3072 : Int32) - x1) then l_T_fill_29 fb_n x1 x2 x3 (0 : Int32) st else fb_rz (0 : Int32) st))))
set_option maxHeartbeats 4000000 in
set_option maxRecDepth 100000 in
theorem w_T_fill_0 {p : Program} {l : Launch} {e : Env} {s : State} {m : MethodId} {args : Array Value} {below : List Frame} {meth : Method} {c : Code} {A : Nat → Prop} {dC : Nat → ClassId} {dI : Nat → Nat → Nat} {dA : Nat → ClassId} {a : Nat → Nat} {z : Nat → Nat} (CX : fb_C p s m args meth c kc_T_fill (some .boolean) 5 "FileTree" (dC, dI) vcl (tX dA) A (zX z)) (o : Int32 × fb_S) (x1 : Int32) (x2 : Int32) (x3 : Int32) (st : fb_S) (hF : f_T_fill x1 x2 x3 st = some o) : fb_G p l e (headSpec kw_T_fill rm_T_fill).room s m args below meth c (dC, dI) vcl (tX dA) (wX dA a) A (some (.int o.1)) o.2 0 5 [(0, .ref (a 0)), (1, .int x1), (2, .int x2), (3, .int x3)] [] st := by
  intro H locs hP hD hS ls hl
  obtain ⟨hx, hb, hr, hml, hown, hts, hK, hA, hlocks, hZ⟩ := id CX
  unfold f_T_fill at hF
  refine lv_iload_n hx hb kd_T_fill_0 rfl (lv_at hl 1 rfl) ?_
  refine lv_if_lt (tgt := 24) hx hb kd_T_fill_1 (by decide) (fun c1 => ?_) (fun c1 => ?_)
  · rw [if_pos c1] at hF
    refine lv_iconst (v := 0) hx hb kd_T_fill_24 (by decide) ?_
    exact fb_rb (o := o) hx hb hr hlocks hK hP hD hS hF kd_T_fill_25
  · rw [if_neg c1] at hF
    refine lv_iload_n hx hb kd_T_fill_4 rfl (lv_at hl 1 rfl) ?_
    refine lv_sipush (v := 3072) hx hb kd_T_fill_5 (by decide) ?_
    refine lv_icmp_gt (tgt := 24) hx hb kd_T_fill_8 (by decide) (fun c2 => ?_) (fun c2 => ?_)
    · rw [if_pos c2] at hF
      refine lv_iconst (v := 0) hx hb kd_T_fill_24 (by decide) ?_
      exact fb_rb (o := o) hx hb hr hlocks hK hP hD hS hF kd_T_fill_25
    · rw [if_neg c2] at hF
      refine lv_iload_n hx hb kd_T_fill_11 rfl (lv_at hl 2 rfl) ?_
      refine lv_if_lt (tgt := 24) hx hb kd_T_fill_12 (by decide) (fun c3 => ?_) (fun c3 => ?_)
      · rw [if_pos c3] at hF
        refine lv_iconst (v := 0) hx hb kd_T_fill_24 (by decide) ?_
        exact fb_rb (o := o) hx hb hr hlocks hK hP hD hS hF kd_T_fill_25
      · rw [if_neg c3] at hF
        refine lv_iload_n hx hb kd_T_fill_15 rfl (lv_at hl 2 rfl) ?_
        refine lv_sipush (v := 3072) hx hb kd_T_fill_16 (by decide) ?_
        refine lv_iload_n hx hb kd_T_fill_19 rfl (lv_at hl 1 rfl) ?_
        refine lv_isub hx hb kd_T_fill_20 ?_
        refine lv_icmp_le (tgt := 26) hx hb kd_T_fill_21 (by decide) (fun c4 => ?_) (fun c4 => ?_)
        · rw [if_pos c4] at hF
          refine lv_iconst (v := 0) hx hb kd_T_fill_26 (by decide) ?_
          refine lv_istore (lv' := [(4, .int (0 : Int32)), (0, .ref (a 0)), (1, .int x1), (2, .int x2), (3, .int x3)]) hx hb kd_T_fill_27 hl (by decide) rfl (fun ls hl => ?_)
          exact v_T_fill_29 CX o fb_n x1 x2 x3 (0 : Int32) st hF H locs hP hD hS ls (lv_sub hl [1, 2, 3, 4, 0] rfl)
        · rw [if_neg c4] at hF
          refine lv_iconst (v := 0) hx hb kd_T_fill_24 (by decide) ?_
          exact fb_rb (o := o) hx hb hr hlocks hK hP hD hS hF kd_T_fill_25
theorem c_T_fill (l : Launch) (dC : Nat → ClassId) (dI : Nat → Nat → Nat) (dA : Nat → ClassId) (a : Nat → Nat) (z : Nat → Nat) (x1 : Int32) (x2 : Int32) (x3 : Int32) (st : fb_S) (o : Int32 × fb_S) (h : f_T_fill x1 x2 x3 st = some o) : fb_M l ky_T_fill kw_T_fill rm_T_fill (dC, dI) vcl (tX dA) (wX dA a) (zX z) [.ref (a 0), .int x1, .int x2, .int x3] (some (.int o.1)) st o.2 := fb_enter (by decide) rfl (Nat.le_of_ble_eq_true rfl) (fun p e s m below meth c A CX hP hD hS ls hl => w_T_fill_0 CX o x1 x2 x3 st h s.heap [] hP hD hS ls hl)
abbrev rm_T_at : Room := { frames := 0, cells := 0, slots := 0, locals := 0 }
def f_T_at (x1 : Int32) (st : fb_S) : Option (Int32 × fb_S) := (if x1 < (0 : Int32) then some ((-1 : Int32), st) else (if (3072 : Int32) ≤ x1 then some ((-1 : Int32), st) else (fb_ld (st 5) 3072 x1).bind fun v3 => some (v3 &&& (255 : Int32), st)))
set_option maxHeartbeats 4000000 in
set_option maxRecDepth 100000 in
theorem w_T_at_0 {p : Program} {l : Launch} {e : Env} {s : State} {m : MethodId} {args : Array Value} {below : List Frame} {meth : Method} {c : Code} {A : Nat → Prop} {dC : Nat → ClassId} {dI : Nat → Nat → Nat} {dA : Nat → ClassId} {a : Nat → Nat} {z : Nat → Nat} (CX : fb_C p s m args meth c kc_T_at (some .int) 2 "FileTree" (dC, dI) vcl (tX dA) A (zX z)) (o : Int32 × fb_S) (x1 : Int32) (st : fb_S) (hF : f_T_at x1 st = some o) : fb_G p l e (headSpec kw_T_at rm_T_at).room s m args below meth c (dC, dI) vcl (tX dA) (wX dA a) A (some (.int o.1)) o.2 0 2 [(0, .ref (a 0)), (1, .int x1)] [] st := by
  intro H locs hP hD hS ls hl
  obtain ⟨hx, hb, hr, hml, hown, hts, hK, hA, hlocks, hZ⟩ := id CX
  unfold f_T_at at hF
  refine lv_iload_n hx hb kd_T_at_0 rfl (lv_at hl 1 rfl) ?_
  refine lv_if_lt (tgt := 24) hx hb kd_T_at_1 (by decide) (fun c1 => ?_) (fun c1 => ?_)
  · rw [if_pos c1] at hF
    refine lv_iconst (v := (-1)) hx hb kd_T_at_24 (by decide) ?_
    exact fb_ri (o := o) hx hb hr hlocks hK hP hD hS hF kd_T_at_25
  · rw [if_neg c1] at hF
    refine lv_iload_n hx hb kd_T_at_4 rfl (lv_at hl 1 rfl) ?_
    refine lv_sipush (v := 3072) hx hb kd_T_at_5 (by decide) ?_
    refine lv_icmp_ge (tgt := 24) hx hb kd_T_at_8 (by decide) (fun c2 => ?_) (fun c2 => ?_)
    · rw [if_pos c2] at hF
      refine lv_iconst (v := (-1)) hx hb kd_T_at_24 (by decide) ?_
      exact fb_ri (o := o) hx hb hr hlocks hK hP hD hS hF kd_T_at_25
    · rw [if_neg c2] at hF
      refine lv_aload_n hx hb kd_T_at_11 rfl (lv_at hl 0 rfl) ?_
      refine va_get (D := (dC, dI)) (ci := 4) (v := .ref (a 10)) (C := "FileTree") (T := ft_T) (N := 5) hx hb hts fi_T hown hK hP 0 rfl rfl 4 (by decide) (hts _ q_211) (fun _ h9 => h9) rfl kd_T_at_12 ?_
      refine lv_iload_n hx hb kd_T_at_15 rfl (lv_at hl 1 rfl) ?_
      obtain ⟨v3, e_v3, hF⟩ := fb_ob hF
      refine fb_bald hx hb hK hP 10 1 rfl rfl e_v3 kd_T_at_16 ?_
      refine lv_sipush (v := 255) hx hb kd_T_at_17 (by decide) ?_
      refine lv_iand hx hb kd_T_at_20 ?_
      refine lv_goto (tgt := 25) hx hb kd_T_at_21 (by decide) ?_
      exact fb_ri (o := o) hx hb hr hlocks hK hP hD hS hF kd_T_at_25
theorem c_T_at (l : Launch) (dC : Nat → ClassId) (dI : Nat → Nat → Nat) (dA : Nat → ClassId) (a : Nat → Nat) (z : Nat → Nat) (x1 : Int32) (st : fb_S) (o : Int32 × fb_S) (h : f_T_at x1 st = some o) : fb_M l ky_T_at kw_T_at rm_T_at (dC, dI) vcl (tX dA) (wX dA a) (zX z) [.ref (a 0), .int x1] (some (.int o.1)) st o.2 := fb_enter (by decide) rfl (Nat.le_of_ble_eq_true rfl) (fun p e s m below meth c A CX hP hD hS ls hl => w_T_at_0 CX o x1 st h s.heap [] hP hD hS ls hl)
abbrev rm_T_peek : Room := { frames := 1, cells := 0, slots := 0, locals := 24 }
def f_T_peek (x1 : Int32) (x2 : Int32) (st : fb_S) : Option (Int32 × fb_S) := (if x1 < (0 : Int32) then some ((-1 : Int32), st) else (if (512 : Int32) ≤ x1 then some ((-1 : Int32), st) else (if x2 < (0 : Int32) then some ((-1 : Int32), st) else (if x2 < (1024 : Int32) then (f_K_partAt ((x1 * (1024 : Int32)) + x2) (255 : Int32) st).bind fun r5 => some (r5.1, r5.2) else some ((-1 : Int32), st)))))
set_option maxHeartbeats 4000000 in
set_option maxRecDepth 100000 in
theorem w_T_peek_0 {p : Program} {l : Launch} {e : Env} {s : State} {m : MethodId} {args : Array Value} {below : List Frame} {meth : Method} {c : Code} {A : Nat → Prop} {dC : Nat → ClassId} {dI : Nat → Nat → Nat} {dA : Nat → ClassId} {a : Nat → Nat} {z : Nat → Nat} (CX : fb_C p s m args meth c kc_T_peek (some .int) 3 "FileTree" (dC, dI) vcl (tX dA) A (zX z)) (o : Int32 × fb_S) (x1 : Int32) (x2 : Int32) (st : fb_S) (hF : f_T_peek x1 x2 st = some o) : fb_G p l e (headSpec kw_T_peek rm_T_peek).room s m args below meth c (dC, dI) vcl (tX dA) (wX dA a) A (some (.int o.1)) o.2 0 3 [(0, .ref (a 0)), (1, .int x1), (2, .int x2)] [] st := by
  intro H locs hP hD hS ls hl
  obtain ⟨hx, hb, hr, hml, hown, hts, hK, hA, hlocks, hZ⟩ := id CX
  unfold f_T_peek at hF
  refine lv_iload_n hx hb kd_T_peek_0 rfl (lv_at hl 1 rfl) ?_
  refine lv_if_lt (tgt := 22) hx hb kd_T_peek_1 (by decide) (fun c1 => ?_) (fun c1 => ?_)
  · rw [if_pos c1] at hF
    refine lv_iconst (v := (-1)) hx hb kd_T_peek_22 (by decide) ?_
    exact fb_ri (o := o) hx hb hr hlocks hK hP hD hS hF kd_T_peek_23
  · rw [if_neg c1] at hF
    refine lv_iload_n hx hb kd_T_peek_4 rfl (lv_at hl 1 rfl) ?_
    refine lv_sipush (v := 512) hx hb kd_T_peek_5 (by decide) ?_
    refine lv_icmp_ge (tgt := 22) hx hb kd_T_peek_8 (by decide) (fun c2 => ?_) (fun c2 => ?_)
    · rw [if_pos c2] at hF
      refine lv_iconst (v := (-1)) hx hb kd_T_peek_22 (by decide) ?_
      exact fb_ri (o := o) hx hb hr hlocks hK hP hD hS hF kd_T_peek_23
    · rw [if_neg c2] at hF
      refine lv_iload_n hx hb kd_T_peek_11 rfl (lv_at hl 2 rfl) ?_
      refine lv_if_lt (tgt := 22) hx hb kd_T_peek_12 (by decide) (fun c3 => ?_) (fun c3 => ?_)
      · rw [if_pos c3] at hF
        refine lv_iconst (v := (-1)) hx hb kd_T_peek_22 (by decide) ?_
        exact fb_ri (o := o) hx hb hr hlocks hK hP hD hS hF kd_T_peek_23
      · rw [if_neg c3] at hF
        refine lv_iload_n hx hb kd_T_peek_15 rfl (lv_at hl 2 rfl) ?_
        refine lv_sipush (v := 1024) hx hb kd_T_peek_16 (by decide) ?_
        refine lv_icmp_lt (tgt := 24) hx hb kd_T_peek_19 (by decide) (fun c4 => ?_) (fun c4 => ?_)
        · rw [if_pos c4] at hF
          refine lv_aload_n hx hb kd_T_peek_24 rfl (lv_at hl 0 rfl) ?_
          refine va_get (D := (dC, dI)) (ci := 4) (v := .ref (a 3)) (C := "FileTree") (T := ft_T) (N := 5) hx hb hts fi_T hown hK hP 0 rfl rfl 2 (by decide) (hts _ q_209) (fun _ h9 => h9) rfl kd_T_peek_25 ?_
          refine lv_iload_n hx hb kd_T_peek_28 rfl (lv_at hl 1 rfl) ?_
          refine lv_sipush (v := 1024) hx hb kd_T_peek_29 (by decide) ?_
          refine lv_imul hx hb kd_T_peek_32 ?_
          refine lv_iload_n hx hb kd_T_peek_33 rfl (lv_at hl 2 rfl) ?_
          refine lv_iadd hx hb kd_T_peek_34 ?_
          refine lv_sipush (v := 255) hx hb kd_T_peek_35 (by decide) ?_
          obtain ⟨r5, e_r5, hF⟩ := fb_ob hF
          refine fb_callV (As := [.int ((x1 * (1024 : Int32)) + x2), .int (255 : Int32)]) (rest := []) ⟨hx, hb, hml, hown, hts⟩ zX_mv hZ hK hP hD hS hA (c_K_partAt l dC dI dA a z ((x1 * (1024 : Int32)) + x2) (255 : Int32) st r5 e_r5) (cwV 2 hts (gd_V q_271 ko_K_partAt) rfl rfl rfl kh_K_partAt ⟨Nat.le_of_ble_eq_true rfl, Nat.le_of_ble_eq_true rfl⟩) 1 3 rfl rfl rfl rfl hl.1 rfl (Nat.le_of_ble_eq_true rfl) kd_T_peek_38 ⟨Nat.zero_le _, Nat.zero_le _⟩ (fun H locs hP hD hS => ?_)
          refine W.eq (g2 := F0 m 41 ls [.int r5.1]) rfl ?_
          exact fb_ri (o := o) hx hb hr hlocks hK hP hD hS hF kd_T_peek_41
        · rw [if_neg c4] at hF
          refine lv_iconst (v := (-1)) hx hb kd_T_peek_22 (by decide) ?_
          exact fb_ri (o := o) hx hb hr hlocks hK hP hD hS hF kd_T_peek_23
theorem c_T_peek (l : Launch) (dC : Nat → ClassId) (dI : Nat → Nat → Nat) (dA : Nat → ClassId) (a : Nat → Nat) (z : Nat → Nat) (x1 : Int32) (x2 : Int32) (st : fb_S) (o : Int32 × fb_S) (h : f_T_peek x1 x2 st = some o) : fb_M l ky_T_peek kw_T_peek rm_T_peek (dC, dI) vcl (tX dA) (wX dA a) (zX z) [.ref (a 0), .int x1, .int x2] (some (.int o.1)) st o.2 := fb_enter (by decide) rfl (Nat.le_of_ble_eq_true rfl) (fun p e s m below meth c A CX hP hD hS ls hl => w_T_peek_0 CX o x1 x2 st h s.heap [] hP hD hS ls hl)
abbrev rm_T_init : Room := { frames := 6, cells := 10, slots := 134505, locals := 141 }
def b_T_init_57 (st : fb_S) : Option (Int32 × fb_S) := (f_K_format st).bind fun r1 => (f_I_make (1 : Int32) (1 : Int32) (0 : Int32) (0 : Int32) r1.2).bind fun r2 => (f_D_begin (1 : Int32) (1 : Int32) r2.2).bind fun r3 => some (0, r3.2)
set_option maxHeartbeats 4000000 in
set_option maxRecDepth 100000 in
theorem w_T_init_57 {p : Program} {l : Launch} {e : Env} {s : State} {m : MethodId} {args : Array Value} {below : List Frame} {meth : Method} {c : Code} {A : Nat → Prop} {dC : Nat → ClassId} {dI : Nat → Nat → Nat} {dA : Nat → ClassId} {a : Nat → Nat} {z : Nat → Nat} (CX : fb_C p s m args meth c kc_T_init none 1 "FileTree" (dC, dI) vcl (tX dA) A (zX z)) (o : Int32 × fb_S) (st : fb_S) (hF : b_T_init_57 st = some o) : fb_Gk 10 134505 p l e (headSpec kw_T_init rm_T_init).room s m args below meth c (dC, dI) vcl (tX dA) (wX dA a) A none o.2 57 1 [(0, .ref (a 0))] [] st := by
  intro H locs hP hD hS ls hl
  obtain ⟨hx, hb, hr, hml, hown, hts, hK, hA, hlocks, hZ⟩ := id CX
  unfold b_T_init_57 at hF
  refine lv_aload_n hx hb kd_T_init_57 rfl (lv_at hl 0 rfl) ?_
  refine va_get (D := (dC, dI)) (ci := 4) (v := .ref (a 3)) (C := "FileTree") (T := ft_T) (N := 5) hx hb hts fi_T hown hK hP 0 rfl rfl 2 (by decide) (hts _ q_209) (fun _ h9 => h9) rfl kd_T_init_58 ?_
  obtain ⟨r1, e_r1, hF⟩ := fb_ob hF
  refine fb_callV (As := []) (rest := []) ⟨hx, hb, hml, hown, hts⟩ zX_mv hZ hK hP hD hS hA (c_K_format l dC dI dA a z st r1 e_r1) (cwV 0 hts (gd_V q_81 ko_K_format) rfl rfl rfl kh_K_format ⟨Nat.le_of_ble_eq_true rfl, Nat.le_of_ble_eq_true rfl⟩) 1 3 rfl rfl rfl rfl hl.1 rfl (Nat.le_of_ble_eq_true rfl) kd_T_init_61 ⟨Nat.le_of_ble_eq_true rfl, Nat.le_of_ble_eq_true rfl⟩ (fun H locs hP hD hS => ?_)
  refine W.eq (g2 := F0 m 64 ls []) rfl ?_
  refine lv_aload_n hx hb kd_T_init_64 rfl (lv_at hl 0 rfl) ?_
  refine va_get (D := (dC, dI)) (ci := 4) (v := .ref (a 2)) (C := "FileTree") (T := ft_T) (N := 5) hx hb hts fi_T hown hK hP 0 rfl rfl 1 (by decide) (hts _ q_208) (fun _ h9 => h9) rfl kd_T_init_65 ?_
  refine lv_iconst (v := 1) hx hb kd_T_init_68 (by decide) ?_
  refine lv_iconst (v := 1) hx hb kd_T_init_69 (by decide) ?_
  refine lv_iconst (v := 0) hx hb kd_T_init_70 (by decide) ?_
  refine lv_iconst (v := 0) hx hb kd_T_init_71 (by decide) ?_
  obtain ⟨r2, e_r2, hF⟩ := fb_ob hF
  refine fb_callV (As := [.int (1 : Int32), .int (1 : Int32), .int (0 : Int32), .int (0 : Int32)]) (rest := []) ⟨hx, hb, hml, hown, hts⟩ zX_mv hZ hK hP hD hS hA (c_I_make l dC dI dA a z (1 : Int32) (1 : Int32) (0 : Int32) (0 : Int32) r1.2 r2 e_r2) (cwV 4 hts (gd_V q_104 ko_I_make) rfl rfl rfl kh_I_make ⟨Nat.le_of_ble_eq_true rfl, Nat.le_of_ble_eq_true rfl⟩) 2 2 rfl rfl rfl rfl hl.1 rfl (Nat.le_of_ble_eq_true rfl) kd_T_init_72 ⟨Nat.le_of_ble_eq_true rfl, Nat.le_of_ble_eq_true rfl⟩ (fun H locs hP hD hS => ?_)
  refine W.eq (g2 := F0 m 75 ls []) rfl ?_
  refine lv_aload_n hx hb kd_T_init_75 rfl (lv_at hl 0 rfl) ?_
  refine va_get (D := (dC, dI)) (ci := 4) (v := .ref (a 1)) (C := "FileTree") (T := ft_T) (N := 5) hx hb hts fi_T hown hK hP 0 rfl rfl 0 (by decide) (hts _ q_207) (fun _ h9 => h9) rfl kd_T_init_76 ?_
  refine lv_iconst (v := 1) hx hb kd_T_init_79 (by decide) ?_
  refine lv_iconst (v := 1) hx hb kd_T_init_80 (by decide) ?_
  obtain ⟨r3, e_r3, hF⟩ := fb_ob hF
  refine fb_callV (As := [.int (1 : Int32), .int (1 : Int32)]) (rest := []) ⟨hx, hb, hml, hown, hts⟩ zX_mv hZ hK hP hD hS hA (c_D_begin l dC dI dA a z (1 : Int32) (1 : Int32) r2.2 r3 e_r3) (cwV 2 hts (gd_V q_119 ko_D_begin) rfl rfl rfl kh_D_begin ⟨Nat.le_of_ble_eq_true rfl, Nat.le_of_ble_eq_true rfl⟩) 0 1 rfl rfl rfl rfl hl.1 rfl (Nat.le_of_ble_eq_true rfl) kd_T_init_81 ⟨Nat.le_of_ble_eq_true rfl, Nat.le_of_ble_eq_true rfl⟩ (fun H locs hP hD hS => ?_)
  refine W.eq (g2 := F0 m 84 ls []) rfl ?_
  exact fb_rvk (o := o) hx hb hr hlocks hK hP hD hS hF kd_T_init_84
