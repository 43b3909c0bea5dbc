abbrev rm_X_empty : Room := { frames := 0, cells := 0, slots := 0, locals := 0 }
def f_X_empty (st : fb_S) : Option (Int32 × fb_S) := (fb_pf st 6 (0 : Int32)).bind fun s1 => some (0, s1)
set_option maxHeartbeats 4000000 in
set_option maxRecDepth 100000 in
theorem w_X_empty_0 {p : Program} {l : Launch} {e : Env} {s : State} {m : MethodId} {args : Array Value} {below : List Frame} {meth : Method} {c : Code} {A : Nat → Prop} {dC : Nat → ClassId} {dI : Nat → Nat → Nat} {dA : Nat → ClassId} {a : Nat → Nat} {z : Nat → Nat} (CX : fb_C p s m args meth c kc_X_empty none 1 "FileTree$Text" (dC, dI) vcl (tX dA) A (zX z)) (o : Int32 × fb_S) (st : fb_S) (hF : f_X_empty st = some o) : fb_G p l e (headSpec kw_X_empty rm_X_empty).room s m args below meth c (dC, dI) vcl (tX dA) (wX dA a) A none o.2 0 1 [(0, .ref (a 4))] [] st := by
  intro H locs hP hD hS ls hl
  obtain ⟨hx, hb, hr, hml, hown, hts, hK, hA, hlocks, hZ⟩ := id CX
  unfold f_X_empty at hF
  refine lv_aload_n hx hb kd_X_empty_0 rfl (lv_at hl 0 rfl) ?_
  refine lv_iconst (v := 0) hx hb kd_X_empty_1 (by decide) ?_
  obtain ⟨s1, e_s1, hF⟩ := fb_ob hF
  refine va_put (D := (dC, dI)) (ci := 3) (v := .int (0 : Int32)) (ty := .int) (C := "FileTree$Text") (T := ft_X) (N := 4) hx hb hts fi_X fy_X fo_X fn_X hown hK hP hD hS 4 rfl rfl 3 (by decide) (hts _ q_69) (fun _ h9 => h9) rfl (by decide +kernel) rfl rfl (Nat.le_of_ble_eq_true rfl) kd_X_empty_2 (fun H locs hP hD hS => ?_)
  cases e_s1
  obtain ⟨s1, e_s1⟩ : ∃ z : fb_S, z = va_up st 6 (upd (st 6) 0 (0 : Int32)) := ⟨_, rfl⟩
  rw [← e_s1] at hF
  have hP : va_P (dC, dI) vcl ((wX dA a) s1) H := by rw [e_s1]; exact hP
  have hD : va_D A ((wX dA a) s1) := by rw [e_s1]; exact hD
  exact fb_rv (o := o) hx hb hr hlocks hK hP hD hS hF kd_X_empty_5
theorem c_X_empty (l : Launch) (dC : Nat → ClassId) (dI : Nat → Nat → Nat) (dA : Nat → ClassId) (a : Nat → Nat) (z : Nat → Nat) (st : fb_S) (o : Int32 × fb_S) (h : f_X_empty st = some o) : fb_M l ky_X_empty kw_X_empty rm_X_empty (dC, dI) vcl (tX dA) (wX dA a) (zX z) [.ref (a 4)] none st o.2 := fb_enter (by decide) rfl (Nat.le_of_ble_eq_true rfl) (fun p e s m below meth c A CX hP hD hS ls hl => w_X_empty_0 CX o st h s.heap [] hP hD hS ls hl)
abbrev rm_T_find : Room := { frames := 5, cells := 0, slots := 0, locals := 119 }
def f_T_find (x1 : Int32) (st : fb_S) : Option (Int32 × fb_S) := (f_T_lead x1 (0 : Int32) (st 6 0) st).bind fun r1 => (f_X_empty r1.2).bind fun r2 => some (r1.1, r2.2)
set_option maxHeartbeats 4000000 in
set_option maxRecDepth 100000 in
theorem w_T_find_0 {p : Program} {l : Launch} {e : Env} {s : State} {m : MethodId} {args : Array Value} {below : List Frame} {meth : Method} {c : Code} {A : Nat → Prop} {dC : Nat → ClassId} {dI : Nat → Nat → Nat} {dA : Nat → ClassId} {a : Nat → Nat} {z : Nat → Nat} (CX : fb_C p s m args meth c kc_T_find (some .int) 3 "FileTree" (dC, dI) vcl (tX dA) A (zX z)) (o : Int32 × fb_S) (x1 : Int32) (st : fb_S) (hF : f_T_find x1 st = some o) : fb_G p l e (headSpec kw_T_find rm_T_find).room s m args below meth c (dC, dI) vcl (tX dA) (wX dA a) A (some (.int o.1)) o.2 0 3 [(0, .ref (a 0)), (1, .int x1)] [] st := by
  intro H locs hP hD hS ls hl
  obtain ⟨hx, hb, hr, hml, hown, hts, hK, hA, hlocks, hZ⟩ := id CX
  unfold f_T_find at hF
  refine lv_aload_n hx hb kd_T_find_0 rfl (lv_at hl 0 rfl) ?_
  refine lv_iload_n hx hb kd_T_find_1 rfl (lv_at hl 1 rfl) ?_
  refine lv_iconst (v := 0) hx hb kd_T_find_2 (by decide) ?_
  refine lv_aload_n hx hb kd_T_find_3 rfl (lv_at hl 0 rfl) ?_
  refine va_get (D := (dC, dI)) (ci := 4) (v := .ref (a 4)) (C := "FileTree") (T := ft_T) (N := 5) hx hb hts fi_T hown hK hP 0 rfl rfl 3 (by decide) (hts _ q_210) (fun _ h9 => h9) rfl kd_T_find_4 ?_
  refine va_get (D := (dC, dI)) (ci := 3) (v := .int (st 6 0)) (C := "FileTree$Text") (T := ft_X) (N := 4) hx hb hts fi_X hown hK hP 4 rfl rfl 3 (by decide) (hts _ q_70) (fun _ h9 => h9) rfl kd_T_find_7 ?_
  obtain ⟨r1, e_r1, hF⟩ := fb_ob hF
  refine fb_callV (As := [.int x1, .int (0 : Int32), .int (st 6 0)]) (rest := []) ⟨hx, hb, hml, hown, hts⟩ zX_mv hZ hK hP hD hS hA (c_T_lead l dC dI dA a z x1 (0 : Int32) (st 6 0) st r1 e_r1) (cwV 3 hts (gd_V q_236 ko_T_lead) rfl rfl rfl kh_T_lead ⟨Nat.le_of_ble_eq_true rfl, Nat.le_of_ble_eq_true rfl⟩) 4 0 rfl rfl rfl rfl hl.1 rfl (Nat.le_of_ble_eq_true rfl) kd_T_find_10 ⟨Nat.zero_le _, Nat.zero_le _⟩ (fun H locs hP hD hS => ?_)
  refine W.eq (g2 := F0 m 13 ls [.int r1.1]) rfl ?_
  refine lv_istore_n (lv' := [(2, .int r1.1), (0, .ref (a 0)), (1, .int x1)]) hx hb kd_T_find_13 rfl hl (by decide) rfl (fun ls hl => ?_)
  refine lv_aload_n hx hb kd_T_find_14 rfl (lv_at hl 1 rfl) ?_
  refine va_get (D := (dC, dI)) (ci := 4) (v := .ref (a 4)) (C := "FileTree") (T := ft_T) (N := 5) hx hb hts fi_T hown hK hP 0 rfl rfl 3 (by decide) (hts _ q_210) (fun _ h9 => h9) rfl kd_T_find_15 ?_
  obtain ⟨r2, e_r2, hF⟩ := fb_ob hF
  refine fb_callV (As := []) (rest := []) ⟨hx, hb, hml, hown, hts⟩ zX_mv hZ hK hP hD hS hA (c_X_empty l dC dI dA a z r1.2 r2 e_r2) (cwV 0 hts (gd_V q_272 ko_X_empty) rfl rfl rfl kh_X_empty ⟨Nat.le_of_ble_eq_true rfl, Nat.le_of_ble_eq_true rfl⟩) 3 4 rfl rfl rfl rfl hl.1 rfl (Nat.le_of_ble_eq_true rfl) kd_T_find_18 ⟨Nat.zero_le _, Nat.zero_le _⟩ (fun H locs hP hD hS => ?_)
  refine W.eq (g2 := F0 m 21 ls []) rfl ?_
  refine lv_iload_n hx hb kd_T_find_21 rfl (lv_at hl 0 rfl) ?_
  exact fb_ri (o := o) hx hb hr hlocks hK hP hD hS hF kd_T_find_22
theorem c_T_find (l : Launch) (dC : Nat → ClassId) (dI : Nat → Nat → Nat) (dA : Nat → ClassId) (a : Nat → Nat) (z : Nat → Nat) (x1 : Int32) (st : fb_S) (o : Int32 × fb_S) (h : f_T_find x1 st = some o) : fb_M l ky_T_find kw_T_find rm_T_find (dC, dI) vcl (tX dA) (wX dA a) (zX z) [.ref (a 0), .int x1] (some (.int o.1)) st o.2 := fb_enter (by decide) rfl (Nat.le_of_ble_eq_true rfl) (fun p e s m below meth c A CX hP hD hS ls hl => w_T_find_0 CX o x1 st h s.heap [] hP hD hS ls hl)
abbrev rm_X_copyName_last : Room := { frames := 1, cells := 0, slots := 0, locals := 21 }
def b_X_copyName_last_67 (k6 : Int32 → Int32 → Int32 → Int32 → fb_S → Option (Int32 × fb_S)) (x2 : Int32) (x3 : Int32) (x4 : Int32) (x5 : Int32) (y0 : Int32) (y1 : Int32) (st : fb_S) : Option (Int32 × fb_S) := (fb_st st 4 14 y1 (fb_b y0)).bind fun s1 => k6 x2 x3 x4 (x5 + (1 : Int32)) s1
set_option maxHeartbeats 4000000 in
set_option maxRecDepth 100000 in
theorem w_X_copyName_last_67 {p : Program} {l : Launch} {e : Env} {s : State} {m : MethodId} {args : Array Value} {below : List Frame} {meth : Method} {c : Code} {A : Nat → Prop} {dC : Nat → ClassId} {dI : Nat → Nat → Nat} {dA : Nat → ClassId} {a : Nat → Nat} {z : Nat → Nat} (CX : fb_C p s m args meth c kc_X_copyName none 6 "FileTree$Text" (dC, dI) vcl (tX dA) A (zX z)) (o : Int32 × fb_S) (k6 : Int32 → Int32 → Int32 → Int32 → fb_S → Option (Int32 × fb_S)) (hk6 : ∀ (x2 : Int32) (x3 : Int32) (x4 : Int32) (x5 : Int32) (st : fb_S), k6 x2 x3 x4 x5 st = some o → fb_G p l e (headSpec kw_X_copyName rm_X_copyName_last).room s m args below meth c (dC, dI) vcl (tX dA) (wX dA a) A none o.2 6 6 [(0, .ref (a 4)), (1, .ref (a 9)), (2, .int x2), (3, .int x3), (4, .int x4), (5, .int x5)] [] st) (x2 : Int32) (x3 : Int32) (x4 : Int32) (x5 : Int32) (y0 : Int32) (y1 : Int32) (st : fb_S) (hF : b_X_copyName_last_67 k6 x2 x3 x4 x5 y0 y1 st = some o) : fb_G p l e (headSpec kw_X_copyName rm_X_copyName_last).room s m args below meth c (dC, dI) vcl (tX dA) (wX dA a) A none o.2 67 6 [(0, .ref (a 4)), (1, .ref (a 9)), (2, .int x2), (3, .int x3), (4, .int x4), (5, .int x5)] [.int y0, .int y1, .ref (a 9)] st := by
  intro H locs hP hD hS ls hl
  obtain ⟨hx, hb, hr, hml, hown, hts, hK, hA, hlocks, hZ⟩ := id CX
  unfold b_X_copyName_last_67 at hF
  obtain ⟨s1, e_s1, hF⟩ := fb_ob hF
  refine fb_bast (wx := (wX dA a)) (k := 4) hx hb hK hP hD hS 9 1 rfl rfl e_s1 (fun _ => rfl) kd_X_copyName_67 (fun H locs hP hD hS => ?_)
  refine lv_iinc (v := x5 + (1 : Int32)) (lv' := [(5, .int (x5 + (1 : Int32))), (0, .ref (a 4)), (1, .ref (a 9)), (2, .int x2), (3, .int x3), (4, .int x4)]) hx hb kd_X_copyName_68 hl (k := 5) rfl rfl (by decide) rfl (fun ls hl => ?_)
  refine lv_goto (tgt := 6) hx hb kd_X_copyName_71 (by decide) ?_
  exact hk6 x2 x3 x4 (x5 + (1 : Int32)) s1 hF H locs hP hD hS ls (lv_sub hl [1, 2, 3, 4, 5, 0] rfl)
def b_X_copyName_last_44 (k6 : Int32 → Int32 → Int32 → Int32 → fb_S → Option (Int32 × fb_S)) (x2 : Int32) (x3 : Int32) (x5 : Int32) (y0 : Int32) (st : fb_S) : Option (Int32 × fb_S) := (if y0 = (0 : Int32) then b_X_copyName_last_67 k6 x2 x3 y0 x5 (0 : Int32) x5 st else (f_X_byteAt (x2 + x5) st).bind fun r2 => b_X_copyName_last_67 k6 x2 x3 y0 x5 (fb_b r2.1) x5 r2.2)
set_option maxHeartbeats 4000000 in
set_option maxRecDepth 100000 in
theorem w_X_copyName_last_44 {p : Program} {l : Launch} {e : Env} {s : State} {m : MethodId} {args : Array Value} {below : List Frame} {meth : Method} {c : Code} {A : Nat → Prop} {dC : Nat → ClassId} {dI : Nat → Nat → Nat} {dA : Nat → ClassId} {a : Nat → Nat} {z : Nat → Nat} (CX : fb_C p s m args meth c kc_X_copyName none 6 "FileTree$Text" (dC, dI) vcl (tX dA) A (zX z)) (o : Int32 × fb_S) (k6 : Int32 → Int32 → Int32 → Int32 → fb_S → Option (Int32 × fb_S)) (hk6 : ∀ (x2 : Int32) (x3 : Int32) (x4 : Int32) (x5 : Int32) (st : fb_S), k6 x2 x3 x4 x5 st = some o → fb_G p l e (headSpec kw_X_copyName rm_X_copyName_last).room s m args below meth c (dC, dI) vcl (tX dA) (wX dA a) A none o.2 6 6 [(0, .ref (a 4)), (1, .ref (a 9)), (2, .int x2), (3, .int x3), (4, .int x4), (5, .int x5)] [] st) (x2 : Int32) (x3 : Int32) (x5 : Int32) (y0 : Int32) (st : fb_S) (hF : b_X_copyName_last_44 k6 x2 x3 x5 y0 st = some o) : fb_G p l e (headSpec kw_X_copyName rm_X_copyName_last).room s m args below meth c (dC, dI) vcl (tX dA) (wX dA a) A none o.2 44 6 [(0, .ref (a 4)), (1, .ref (a 9)), (2, .int x2), (3, .int x3), (5, .int x5)] [.int y0] st := by
  intro H locs hP hD hS ls hl
  obtain ⟨hx, hb, hr, hml, hown, hts, hK, hA, hlocks, hZ⟩ := id CX
  unfold b_X_copyName_last_44 at hF
  refine lv_istore (lv' := [(4, .int y0), (0, .ref (a 4)), (1, .ref (a 9)), (2, .int x2), (3, .int x3), (5, .int x5)]) hx hb kd_X_copyName_44 hl (by decide) rfl (fun ls hl => ?_)
  refine lv_aload_n hx hb kd_X_copyName_46 rfl (lv_at hl 2 rfl) ?_
  refine lv_iload hx hb kd_X_copyName_47 (lv_at hl 5 rfl) ?_
  refine lv_iload hx hb kd_X_copyName_49 (lv_at hl 0 rfl) ?_
  refine lv_if_eq (tgt := 66) hx hb kd_X_copyName_51 (by decide) (fun c1 => ?_) (fun c1 => ?_)
  · rw [if_pos c1] at hF
    refine lv_iconst (v := 0) hx hb kd_X_copyName_66 (by decide) ?_
    exact w_X_copyName_last_67 CX o k6 hk6 x2 x3 y0 x5 (0 : Int32) x5 st hF H locs hP hD hS ls (lv_sub hl [1, 2, 3, 4, 0, 5] rfl)
  · rw [if_neg c1] at hF
    refine lv_aload_n hx hb kd_X_copyName_54 rfl (lv_at hl 1 rfl) ?_
    refine lv_iload_n hx hb kd_X_copyName_55 rfl (lv_at hl 3 rfl) ?_
    refine lv_iload hx hb kd_X_copyName_56 (lv_at hl 5 rfl) ?_
    refine lv_iadd hx hb kd_X_copyName_58 ?_
    obtain ⟨r2, e_r2, hF⟩ := fb_ob hF
    refine fb_callV (As := [.int (x2 + x5)]) (rest := [.int x5, .ref (a 9)]) ⟨hx, hb, hml, hown, hts⟩ zX_mv hZ hK hP hD hS hA (c_X_byteAt l dC dI dA a z (x2 + x5) st r2 e_r2) (cwV 1 hts (gd_V q_249 ko_X_byteAt) rfl rfl rfl kh_X_byteAt ⟨Nat.le_of_ble_eq_true rfl, Nat.le_of_ble_eq_true rfl⟩) 3 4 rfl rfl rfl rfl hl.1 rfl (Nat.le_of_ble_eq_true rfl) kd_X_copyName_59 ⟨Nat.zero_le _, Nat.zero_le _⟩ (fun H locs hP hD hS => ?_)
    refine W.eq (g2 := F0 m 62 ls [.int r2.1, .int x5, .ref (a 9)]) rfl ?_
    refine lv_i2b (v := fb_b r2.1) hx hb kd_X_copyName_62 rfl ?_
    refine lv_goto (tgt := 67) hx hb kd_X_copyName_63 (by decide) ?_
    exact w_X_copyName_last_67 CX o k6 hk6 x2 x3 y0 x5 (fb_b r2.1) x5 r2.2 hF H locs hP hD hS ls (lv_sub hl [1, 2, 3, 4, 0, 5] rfl)
def b_X_copyName_last_43 (k6 : Int32 → Int32 → Int32 → Int32 → fb_S → Option (Int32 × fb_S)) (x2 : Int32) (x3 : Int32) (x5 : Int32) (st : fb_S) : Option (Int32 × fb_S) := b_X_copyName_last_44 k6 x2 x3 x5 (0 : Int32) st
set_option maxHeartbeats 4000000 in
set_option maxRecDepth 100000 in
theorem w_X_copyName_last_43 {p : Program} {l : Launch} {e : Env} {s : State} {m : MethodId} {args : Array Value} {below : List Frame} {meth : Method} {c : Code} {A : Nat → Prop} {dC : Nat → ClassId} {dI : Nat → Nat → Nat} {dA : Nat → ClassId} {a : Nat → Nat} {z : Nat → Nat} (CX : fb_C p s m args meth c kc_X_copyName none 6 "FileTree$Text" (dC, dI) vcl (tX dA) A (zX z)) (o : Int32 × fb_S) (k6 : Int32 → Int32 → Int32 → Int32 → fb_S → Option (Int32 × fb_S)) (hk6 : ∀ (x2 : Int32) (x3 : Int32) (x4 : Int32) (x5 : Int32) (st : fb_S), k6 x2 x3 x4 x5 st = some o → fb_G p l e (headSpec kw_X_copyName rm_X_copyName_last).room s m args below meth c (dC, dI) vcl (tX dA) (wX dA a) A none o.2 6 6 [(0, .ref (a 4)), (1, .ref (a 9)), (2, .int x2), (3, .int x3), (4, .int x4), (5, .int x5)] [] st) (x2 : Int32) (x3 : Int32) (x5 : Int32) (st : fb_S) (hF : b_X_copyName_last_43 k6 x2 x3 x5 st = some o) : fb_G p l e (headSpec kw_X_copyName rm_X_copyName_last).room s m args below meth c (dC, dI) vcl (tX dA) (wX dA a) A none o.2 43 6 [(0, .ref (a 4)), (1, .ref (a 9)), (2, .int x2), (3, .int x3), (5, .int x5)] [] st := by
  intro H locs hP hD hS ls hl
  obtain ⟨hx, hb, hr, hml, hown, hts, hK, hA, hlocks, hZ⟩ := id CX
  unfold b_X_copyName_last_43 at hF
  refine lv_iconst (v := 0) hx hb kd_X_copyName_43 (by decide) ?_
  exact w_X_copyName_last_44 CX o k6 hk6 x2 x3 x5 (0 : Int32) st hF H locs hP hD hS ls (lv_sub hl [0, 1, 2, 3, 4] rfl)
def b_X_copyName_last_6 (k6 : Int32 → Int32 → Int32 → Int32 → fb_S → Option (Int32 × fb_S)) (x2 : Int32) (x3 : Int32) (x4 : Int32) (x5 : Int32) (st : fb_S) : Option (Int32 × fb_S) := (if (14 : Int32) ≤ x5 then some (0, st) else (if x4 = (0 : Int32) then b_X_copyName_last_43 k6 x2 x3 x5 st else (if x3 ≤ (x2 + x5) then b_X_copyName_last_43 k6 x2 x3 x5 st else (f_X_byteAt (x2 + x5) st).bind fun r4 => (if r4.1 = (47 : Int32) then b_X_copyName_last_43 k6 x2 x3 x5 r4.2 else b_X_copyName_last_44 k6 x2 x3 x5 (1 : Int32) r4.2))))
set_option maxHeartbeats 4000000 in
set_option maxRecDepth 100000 in
theorem w_X_copyName_last_6 {p : Program} {l : Launch} {e : Env} {s : State} {m : MethodId} {args : Array Value} {below : List Frame} {meth : Method} {c : Code} {A : Nat → Prop} {dC : Nat → ClassId} {dI : Nat → Nat → Nat} {dA : Nat → ClassId} {a : Nat → Nat} {z : Nat → Nat} (CX : fb_C p s m args meth c kc_X_copyName none 6 "FileTree$Text" (dC, dI) vcl (tX dA) A (zX z)) (o : Int32 × fb_S) (k6 : Int32 → Int32 → Int32 → Int32 → fb_S → Option (Int32 × fb_S)) (hk6 : ∀ (x2 : Int32) (x3 : Int32) (x4 : Int32) (x5 : Int32) (st : fb_S), k6 x2 x3 x4 x5 st = some o → fb_G p l e (headSpec kw_X_copyName rm_X_copyName_last).room s m args below meth c (dC, dI) vcl (tX dA) (wX dA a) A none o.2 6 6 [(0, .ref (a 4)), (1, .ref (a 9)), (2, .int x2), (3, .int x3), (4, .int x4), (5, .int x5)] [] st) (x2 : Int32) (x3 : Int32) (x4 : Int32) (x5 : Int32) (st : fb_S) (hF : b_X_copyName_last_6 k6 x2 x3 x4 x5 st = some o) : fb_G p l e (headSpec kw_X_copyName rm_X_copyName_last).room s m args below meth c (dC, dI) vcl (tX dA) (wX dA a) A none o.2 6 6 [(0, .ref (a 4)), (1, .ref (a 9)), (2, .int x2), (3, .int x3), (4, .int x4), (5, .int x5)] [] st := by
  intro H locs hP hD hS ls hl
  obtain ⟨hx, hb, hr, hml, hown, hts, hK, hA, hlocks, hZ⟩ := id CX
  unfold b_X_copyName_last_6 at hF
  refine lv_iload hx hb kd_X_copyName_6 (lv_at hl 5 rfl) ?_
  refine lv_aload_n hx hb kd_X_copyName_8 rfl (lv_at hl 1 rfl) ?_
  refine va_alen (v := 14) hx hb hK hP 9 1 rfl rfl rfl kd_X_copyName_9 ?_
  refine lv_icmp_ge (tgt := 74) hx hb kd_X_copyName_10 (by decide) (fun c1 => ?_) (fun c1 => ?_)
  · rw [if_pos c1] at hF
    exact fb_rv (o := o) hx hb hr hlocks hK hP hD hS hF kd_X_copyName_74
  · rw [if_neg c1] at hF
    refine lv_iload hx hb kd_X_copyName_13 (lv_at hl 4 rfl) ?_
    refine lv_if_eq (tgt := 43) hx hb kd_X_copyName_15 (by decide) (fun c2 => ?_) (fun c2 => ?_)
    · rw [if_pos c2] at hF
      exact w_X_copyName_last_43 CX o k6 hk6 x2 x3 x5 st hF H locs hP hD hS ls (lv_sub hl [0, 1, 2, 3, 5] rfl)
    · rw [if_neg c2] at hF
      refine lv_iload_n hx hb kd_X_copyName_18 rfl (lv_at hl 2 rfl) ?_
      refine lv_iload hx hb kd_X_copyName_19 (lv_at hl 5 rfl) ?_
      refine lv_iadd hx hb kd_X_copyName_21 ?_
      refine lv_iload_n hx hb kd_X_copyName_22 rfl (lv_at hl 3 rfl) ?_
      refine lv_icmp_ge (tgt := 43) hx hb kd_X_copyName_23 (by decide) (fun c3 => ?_) (fun c3 => ?_)
      · rw [if_pos c3] at hF
        exact w_X_copyName_last_43 CX o k6 hk6 x2 x3 x5 st hF H locs hP hD hS ls (lv_sub hl [0, 1, 2, 3, 5] rfl)
      · rw [if_neg c3] at hF
        refine lv_aload_n hx hb kd_X_copyName_26 rfl (lv_at hl 0 rfl) ?_
        refine lv_iload_n hx hb kd_X_copyName_27 rfl (lv_at hl 2 rfl) ?_
        refine lv_iload hx hb kd_X_copyName_28 (lv_at hl 5 rfl) ?_
        refine lv_iadd hx hb kd_X_copyName_30 ?_
        obtain ⟨r4, e_r4, hF⟩ := fb_ob hF
        refine fb_callV (As := [.int (x2 + x5)]) (rest := []) ⟨hx, hb, hml, hown, hts⟩ zX_mv hZ hK hP hD hS hA (c_X_byteAt l dC dI dA a z (x2 + x5) st r4 e_r4) (cwV 1 hts (gd_V q_249 ko_X_byteAt) rfl rfl rfl kh_X_byteAt ⟨Nat.le_of_ble_eq_true rfl, Nat.le_of_ble_eq_true rfl⟩) 3 4 rfl rfl rfl rfl hl.1 rfl (Nat.le_of_ble_eq_true rfl) kd_X_copyName_31 ⟨Nat.zero_le _, Nat.zero_le _⟩ (fun H locs hP hD hS => ?_)
        refine W.eq (g2 := F0 m 34 ls [.int r4.1]) rfl ?_
        refine lv_bipush (v := 47) hx hb kd_X_copyName_34 (by decide) ?_
        refine lv_icmp_eq (tgt := 43) hx hb kd_X_copyName_36 (by decide) (fun c5 => ?_) (fun c5 => ?_)
        · rw [if_pos c5] at hF
          exact w_X_copyName_last_43 CX o k6 hk6 x2 x3 x5 r4.2 hF H locs hP hD hS ls (lv_sub hl [0, 1, 2, 3, 5] rfl)
        · rw [if_neg c5] at hF
          refine lv_iconst (v := 1) hx hb kd_X_copyName_39 (by decide) ?_
          refine lv_goto (tgt := 44) hx hb kd_X_copyName_40 (by decide) ?_
          exact w_X_copyName_last_44 CX o k6 hk6 x2 x3 x5 (1 : Int32) r4.2 hF H locs hP hD hS ls (lv_sub hl [0, 1, 2, 3, 5] rfl)
def l_X_copyName_last_6 : Nat → Int32 → Int32 → Int32 → Int32 → fb_S → Option (Int32 × fb_S)
  | 0 => fun _ _ _ _ _ => none
  | n + 1 => b_X_copyName_last_6 (l_X_copyName_last_6 n)
theorem v_X_copyName_last_6 {p : Program} {l : Launch} {e : Env} {s : State} {m : MethodId} {args : Array Value} {below : List Frame} {meth : Method} {c : Code} {A : Nat → Prop} {dC : Nat → ClassId} {dI : Nat → Nat → Nat} {dA : Nat → ClassId} {a : Nat → Nat} {z : Nat → Nat} (CX : fb_C p s m args meth c kc_X_copyName none 6 "FileTree$Text" (dC, dI) vcl (tX dA) A (zX z)) (o : Int32 × fb_S) (n : Nat) : ∀ (x2 : Int32) (x3 : Int32) (x4 : Int32) (x5 : Int32) (st : fb_S), l_X_copyName_last_6 n x2 x3 x4 x5 st = some o → fb_G p l e (headSpec kw_X_copyName rm_X_copyName_last).room s m args below meth c (dC, dI) vcl (tX dA) (wX dA a) A none o.2 6 6 [(0, .ref (a 4)), (1, .ref (a 9)), (2, .int x2), (3, .int x3), (4, .int x4), (5, .int x5)] [] st := by
  induction n with
  | zero => intro x2 x3 x4 x5 st hF; cases hF
  | succ n ih => intro x2 x3 x4 x5 st hF; exact w_X_copyName_last_6 CX o (l_X_copyName_last_6 n) ih x2 x3 x4 x5 st hF
def f_X_copyName_last (x2 : Int32) (x3 : Int32) (st : fb_S) : Option (Int32 × fb_S) := l_X_copyName_last_6 fb_n x2 x3 (1 : Int32) (0 : Int32) st
set_option maxHeartbeats 4000000 in
set_option maxRecDepth 100000 in
theorem w_X_copyName_last_0 {p : Program} {l : Launch} {e : Env} {s : State} {m : MethodId} {args : Array Value} {below : List Frame} {meth : Method} {c : Code} {A : Nat → Prop} {dC : Nat → ClassId} {dI : Nat → Nat → Nat} {dA : Nat → ClassId} {a : Nat → Nat} {z : Nat → Nat} (CX : fb_C p s m args meth c kc_X_copyName none 6 "FileTree$Text" (dC, dI) vcl (tX dA) A (zX z)) (o : Int32 × fb_S) (x2 : Int32) (x3 : Int32) (st : fb_S) (hF : f_X_copyName_last x2 x3 st = some o) : fb_G p l e (headSpec kw_X_copyName rm_X_copyName_last).room s m args below meth c (dC, dI) vcl (tX dA) (wX dA a) A none o.2 0 6 [(0, .ref (a 4)), (1, .ref (a 9)), (2, .int x2), (3, .int x3)] [] st := by
  intro H locs hP hD hS ls hl
  obtain ⟨hx, hb, hr, hml, hown, hts, hK, hA, hlocks, hZ⟩ := id CX
  unfold f_X_copyName_last at hF
  refine lv_iconst (v := 1) hx hb kd_X_copyName_0 (by decide) ?_
  refine lv_istore (lv' := [(4, .int (1 : Int32)), (0, .ref (a 4)), (1, .ref (a 9)), (2, .int x2), (3, .int x3)]) hx hb kd_X_copyName_1 hl (by decide) rfl (fun ls hl => ?_)
  refine lv_iconst (v := 0) hx hb kd_X_copyName_3 (by decide) ?_
  refine lv_istore (lv' := [(5, .int (0 : Int32)), (4, .int (1 : Int32)), (0, .ref (a 4)), (1, .ref (a 9)), (2, .int x2), (3, .int x3)]) hx hb kd_X_copyName_4 hl (by decide) rfl (fun ls hl => ?_)
  exact v_X_copyName_last_6 CX o fb_n x2 x3 (1 : Int32) (0 : Int32) st hF H locs hP hD hS ls (lv_sub hl [2, 3, 4, 5, 1, 0] rfl)
theorem c_X_copyName_last (l : Launch) (dC : Nat → ClassId) (dI : Nat → Nat → Nat) (dA : Nat → ClassId) (a : Nat → Nat) (z : Nat → Nat) (x2 : Int32) (x3 : Int32) (st : fb_S) (o : Int32 × fb_S) (h : f_X_copyName_last x2 x3 st = some o) : fb_M l ky_X_copyName kw_X_copyName rm_X_copyName_last (dC, dI) vcl (tX dA) (wX dA a) (zX z) [.ref (a 4), .ref (a 9), .int x2, .int x3] none st o.2 := fb_enter (by decide) rfl (Nat.le_of_ble_eq_true rfl) (fun p e s m below meth c A CX hP hD hS ls hl => w_X_copyName_last_0 CX o x2 x3 st h s.heap [] hP hD hS ls hl)
abbrev rm_X_cutLastName : Room := { frames := 2, cells := 0, slots := 0, locals := 46 }
def b_X_cutLastName_43 (x2 : Int32) (x3 : Int32) (st : fb_S) : Option (Int32 × fb_S) := (if x3 = (-1 : Int32) then some (x3, st) else (f_X_copyName_last x3 x2 st).bind fun r2 => some (x3, r2.2))
set_option maxHeartbeats 4000000 in
set_option maxRecDepth 100000 in
theorem w_X_cutLastName_43 {p : Program} {l : Launch} {e : Env} {s : State} {m : MethodId} {args : Array Value} {below : List Frame} {meth : Method} {c : Code} {A : Nat → Prop} {dC : Nat → ClassId} {dI : Nat → Nat → Nat} {dA : Nat → ClassId} {a : Nat → Nat} {z : Nat → Nat} (CX : fb_C p s m args meth c kc_X_cutLastName (some .int) 5 "FileTree$Text" (dC, dI) vcl (tX dA) A (zX z)) (o : Int32 × fb_S) (x2 : Int32) (x3 : Int32) (st : fb_S) (hF : b_X_cutLastName_43 x2 x3 st = some o) : fb_G p l e (headSpec kw_X_cutLastName rm_X_cutLastName).room s m args below meth c (dC, dI) vcl (tX dA) (wX dA a) A (some (.int o.1)) o.2 43 5 [(0, .ref (a 4)), (2, .int x2), (3, .int x3)] [] st := by
  intro H locs hP hD hS ls hl
  obtain ⟨hx, hb, hr, hml, hown, hts, hK, hA, hlocks, hZ⟩ := id CX
  unfold b_X_cutLastName_43 at hF
  refine lv_iload_n hx hb kd_X_cutLastName_43 rfl (lv_at hl 2 rfl) ?_
  refine lv_iconst (v := (-1)) hx hb kd_X_cutLastName_44 (by decide) ?_
  refine lv_icmp_eq (tgt := 58) hx hb kd_X_cutLastName_45 (by decide) (fun c1 => ?_) (fun c1 => ?_)
  · rw [if_pos c1] at hF
    refine lv_iload_n hx hb kd_X_cutLastName_58 rfl (lv_at hl 2 rfl) ?_
    exact fb_ri (o := o) hx hb hr hlocks hK hP hD hS hF kd_X_cutLastName_59
  · rw [if_neg c1] at hF
    refine lv_aload_n hx hb kd_X_cutLastName_48 rfl (lv_at hl 0 rfl) ?_
    refine lv_aload_n hx hb kd_X_cutLastName_49 rfl (lv_at hl 0 rfl) ?_
    refine va_get (D := (dC, dI)) (ci := 3) (v := .ref (a 9)) (C := "FileTree$Text") (T := ft_X) (N := 4) hx hb hts fi_X hown hK hP 4 rfl rfl 2 (by decide) (hts _ q_67) (fun _ h9 => h9) rfl kd_X_cutLastName_50 ?_
    refine lv_iload_n hx hb kd_X_cutLastName_53 rfl (lv_at hl 2 rfl) ?_
    refine lv_iload_n hx hb kd_X_cutLastName_54 rfl (lv_at hl 1 rfl) ?_
    obtain ⟨r2, e_r2, hF⟩ := fb_ob hF
    refine fb_callV (As := [.ref (a 9), .int x3, .int x2]) (rest := []) ⟨hx, hb, hml, hown, hts⟩ zX_mv hZ hK hP hD hS hA (c_X_copyName_last l dC dI dA a z x3 x2 st r2 e_r2) (cwV 3 hts (gd_V q_286 ko_X_copyName) rfl rfl rfl kh_X_copyName ⟨Nat.le_of_ble_eq_true rfl, Nat.le_of_ble_eq_true rfl⟩) 3 4 rfl rfl rfl rfl hl.1 rfl (Nat.le_of_ble_eq_true rfl) kd_X_cutLastName_55 ⟨Nat.zero_le _, Nat.zero_le _⟩ (fun H locs hP hD hS => ?_)
    refine W.eq (g2 := F0 m 58 ls []) rfl ?_
    refine lv_iload_n hx hb kd_X_cutLastName_58 rfl (lv_at hl 2 rfl) ?_
    exact fb_ri (o := o) hx hb hr hlocks hK hP hD hS hF kd_X_cutLastName_59
def b_X_cutLastName_36 (k14 : Int32 → Int32 → Int32 → Int32 → fb_S → Option (Int32 × fb_S)) (x1 : Int32) (x2 : Int32) (x4 : Int32) (y0 : Int32) (st : fb_S) : Option (Int32 × fb_S) := k14 x1 x2 y0 (x4 + (1 : Int32)) st
set_option maxHeartbeats 4000000 in
set_option maxRecDepth 100000 in
theorem w_X_cutLastName_36 {p : Program} {l : Launch} {e : Env} {s : State} {m : MethodId} {args : Array Value} {below : List Frame} {meth : Method} {c : Code} {A : Nat → Prop} {dC : Nat → ClassId} {dI : Nat → Nat → Nat} {dA : Nat → ClassId} {a : Nat → Nat} {z : Nat → Nat} (CX : fb_C p s m args meth c kc_X_cutLastName (some .int) 5 "FileTree$Text" (dC, dI) vcl (tX dA) A (zX z)) (o : Int32 × fb_S) (k14 : Int32 → Int32 → Int32 → Int32 → fb_S → Option (Int32 × fb_S)) (hk14 : ∀ (x1 : Int32) (x2 : Int32) (x3 : Int32) (x4 : Int32) (st : fb_S), k14 x1 x2 x3 x4 st = some o → fb_G p l e (headSpec kw_X_cutLastName rm_X_cutLastName).room s m args below meth c (dC, dI) vcl (tX dA) (wX dA a) A (some (.int o.1)) o.2 14 5 [(0, .ref (a 4)), (1, .int x1), (2, .int x2), (3, .int x3), (4, .int x4)] [] st) (x1 : Int32) (x2 : Int32) (x4 : Int32) (y0 : Int32) (st : fb_S) (hF : b_X_cutLastName_36 k14 x1 x2 x4 y0 st = some o) : fb_G p l e (headSpec kw_X_cutLastName rm_X_cutLastName).room s m args below meth c (dC, dI) vcl (tX dA) (wX dA a) A (some (.int o.1)) o.2 36 5 [(0, .ref (a 4)), (1, .int x1), (2, .int x2), (4, .int x4)] [.int y0] st := by
  intro H locs hP hD hS ls hl
  obtain ⟨hx, hb, hr, hml, hown, hts, hK, hA, hlocks, hZ⟩ := id CX
  unfold b_X_cutLastName_36 at hF
  refine lv_istore_n (lv' := [(3, .int y0), (0, .ref (a 4)), (1, .int x1), (2, .int x2), (4, .int x4)]) hx hb kd_X_cutLastName_36 rfl hl (by decide) rfl (fun ls hl => ?_)
  refine lv_iinc (v := x4 + (1 : Int32)) (lv' := [(4, .int (x4 + (1 : Int32))), (3, .int y0), (0, .ref (a 4)), (1, .int x1), (2, .int x2)]) hx hb kd_X_cutLastName_37 hl (k := 4) rfl rfl (by decide) rfl (fun ls hl => ?_)
  refine lv_goto (tgt := 14) hx hb kd_X_cutLastName_40 (by decide) ?_
  exact hk14 x1 x2 y0 (x4 + (1 : Int32)) st hF H locs hP hD hS ls (lv_sub hl [2, 3, 4, 1, 0] rfl)
def b_X_cutLastName_14 (k14 : Int32 → Int32 → Int32 → Int32 → fb_S → Option (Int32 × fb_S)) (x1 : Int32) (x2 : Int32) (x3 : Int32) (x4 : Int32) (st : fb_S) : Option (Int32 × fb_S) := (if x2 ≤ x4 then b_X_cutLastName_43 x2 x3 st else (f_X_nameBegins x1 x4 st).bind fun r2 => (if r2.1 = (0 : Int32) then b_X_cutLastName_36 k14 x1 x2 x4 x3 r2.2 else b_X_cutLastName_36 k14 x1 x2 x4 x4 r2.2))
set_option maxHeartbeats 4000000 in
set_option maxRecDepth 100000 in
theorem w_X_cutLastName_14 {p : Program} {l : Launch} {e : Env} {s : State} {m : MethodId} {args : Array Value} {below : List Frame} {meth : Method} {c : Code} {A : Nat → Prop} {dC : Nat → ClassId} {dI : Nat → Nat → Nat} {dA : Nat → ClassId} {a : Nat → Nat} {z : Nat → Nat} (CX : fb_C p s m args meth c kc_X_cutLastName (some .int) 5 "FileTree$Text" (dC, dI) vcl (tX dA) A (zX z)) (o : Int32 × fb_S) (k14 : Int32 → Int32 → Int32 → Int32 → fb_S → Option (Int32 × fb_S)) (hk14 : ∀ (x1 : Int32) (x2 : Int32) (x3 : Int32) (x4 : Int32) (st : fb_S), k14 x1 x2 x3 x4 st = some o → fb_G p l e (headSpec kw_X_cutLastName rm_X_cutLastName).room s m args below meth c (dC, dI) vcl (tX dA) (wX dA a) A (some (.int o.1)) o.2 14 5 [(0, .ref (a 4)), (1, .int x1), (2, .int x2), (3, .int x3), (4, .int x4)] [] st) (x1 : Int32) (x2 : Int32) (x3 : Int32) (x4 : Int32) (st : fb_S) (hF : b_X_cutLastName_14 k14 x1 x2 x3 x4 st = some o) : fb_G p l e (headSpec kw_X_cutLastName rm_X_cutLastName).room s m args below meth c (dC, dI) vcl (tX dA) (wX dA a) A (some (.int o.1)) o.2 14 5 [(0, .ref (a 4)), (1, .int x1), (2, .int x2), (3, .int x3), (4, .int x4)] [] st := by
  intro H locs hP hD hS ls hl
  obtain ⟨hx, hb, hr, hml, hown, hts, hK, hA, hlocks, hZ⟩ := id CX
  unfold b_X_cutLastName_14 at hF
  refine lv_iload hx hb kd_X_cutLastName_14 (lv_at hl 4 rfl) ?_
  refine lv_iload_n hx hb kd_X_cutLastName_16 rfl (lv_at hl 2 rfl) ?_
  refine lv_icmp_ge (tgt := 43) hx hb kd_X_cutLastName_17 (by decide) (fun c1 => ?_) (fun c1 => ?_)
  · rw [if_pos c1] at hF
    exact w_X_cutLastName_43 CX o x2 x3 st hF H locs hP hD hS ls (lv_sub hl [0, 2, 3] rfl)
  · rw [if_neg c1] at hF
    refine lv_aload_n hx hb kd_X_cutLastName_20 rfl (lv_at hl 0 rfl) ?_
    refine lv_iload_n hx hb kd_X_cutLastName_21 rfl (lv_at hl 1 rfl) ?_
    refine lv_iload hx hb kd_X_cutLastName_22 (lv_at hl 4 rfl) ?_
    obtain ⟨r2, e_r2, hF⟩ := fb_ob hF
    refine fb_callV (As := [.int x1, .int x4]) (rest := []) ⟨hx, hb, hml, hown, hts⟩ zX_mv hZ hK hP hD hS hA (c_X_nameBegins l dC dI dA a z x1 x4 st r2 e_r2) (cwV 2 hts (gd_V q_285 ko_X_nameBegins) rfl rfl rfl kh_X_nameBegins ⟨Nat.le_of_ble_eq_true rfl, Nat.le_of_ble_eq_true rfl⟩) 3 4 rfl rfl rfl rfl hl.1 rfl (Nat.le_of_ble_eq_true rfl) kd_X_cutLastName_24 ⟨Nat.zero_le _, Nat.zero_le _⟩ (fun H locs hP hD hS => ?_)
    refine W.eq (g2 := F0 m 27 ls [.int r2.1]) rfl ?_
    refine lv_if_eq (tgt := 35) hx hb kd_X_cutLastName_27 (by decide) (fun c3 => ?_) (fun c3 => ?_)
    · rw [if_pos c3] at hF
      refine lv_iload_n hx hb kd_X_cutLastName_35 rfl (lv_at hl 3 rfl) ?_
      exact w_X_cutLastName_36 CX o k14 hk14 x1 x2 x4 x3 r2.2 hF H locs hP hD hS ls (lv_sub hl [0, 1, 2, 4] rfl)
    · rw [if_neg c3] at hF
      refine lv_iload hx hb kd_X_cutLastName_30 (lv_at hl 4 rfl) ?_
      refine lv_goto (tgt := 36) hx hb kd_X_cutLastName_32 (by decide) ?_
      exact w_X_cutLastName_36 CX o k14 hk14 x1 x2 x4 x4 r2.2 hF H locs hP hD hS ls (lv_sub hl [0, 1, 2, 4] rfl)
def l_X_cutLastName_14 : Nat → Int32 → Int32 → Int32 → Int32 → fb_S → Option (Int32 × fb_S)
  | 0 => fun _ _ _ _ _ => none
  | n + 1 => b_X_cutLastName_14 (l_X_cutLastName_14 n)
theorem v_X_cutLastName_14 {p : Program} {l : Launch} {e : Env} {s : State} {m : MethodId} {args : Array Value} {below : List Frame} {meth : Method} {c : Code} {A : Nat → Prop} {dC : Nat → ClassId} {dI : Nat → Nat → Nat} {dA : Nat → ClassId} {a : Nat → Nat} {z : Nat → Nat} (CX : fb_C p s m args meth c kc_X_cutLastName (some .int) 5 "FileTree$Text" (dC, dI) vcl (tX dA) A (zX z)) (o : Int32 × fb_S) (n : Nat) : ∀ (x1 : Int32) (x2 : Int32) (x3 : Int32) (x4 : Int32) (st : fb_S), l_X_cutLastName_14 n x1 x2 x3 x4 st = some o → fb_G p l e (headSpec kw_X_cutLastName rm_X_cutLastName).room s m args below meth c (dC, dI) vcl (tX dA) (wX dA a) A (some (.int o.1)) o.2 14 5 [(0, .ref (a 4)), (1, .int x1), (2, .int x2), (3, .int x3), (4, .int x4)] [] st := by
  induction n with
  | zero => intro x1 x2 x3 x4 st hF; cases hF
  | succ n ih => intro x1 x2 x3 x4 st hF; exact w_X_cutLastName_14 CX o (l_X_cutLastName_14 n) ih x1 x2 x3 x4 st hF
def f_X_cutLastName (x1 : Int32) (x2 : Int32) (st : fb_S) : Option (Int32 × fb_S) := (f_X_isPath x1 x2 st).bind fun r1 => (if r1.1 = (0 : Int32) then b_X_cutLastName_43 x2 (-1 : Int32) r1.2 else l_X_cutLastName_14 fb_n x1 x2 (-1 : Int32) x1 r1.2)
set_option maxHeartbeats 4000000 in
set_option maxRecDepth 100000 in
theorem w_X_cutLastName_0 {p : Program} {l : Launch} {e : Env} {s : State} {m : MethodId} {args : Array Value} {below : List Frame} {meth : Method} {c : Code} {A : Nat → Prop} {dC : Nat → ClassId} {dI : Nat → Nat → Nat} {dA : Nat → ClassId} {a : Nat → Nat} {z : Nat → Nat} (CX : fb_C p s m args meth c kc_X_cutLastName (some .int) 5 "FileTree$Text" (dC, dI) vcl (tX dA) A (zX z)) (o : Int32 × fb_S) (x1 : Int32) (x2 : Int32) (st : fb_S) (hF : f_X_cutLastName x1 x2 st = some o) : fb_G p l e (headSpec kw_X_cutLastName rm_X_cutLastName).room s m args below meth c (dC, dI) vcl (tX dA) (wX dA a) A (some (.int o.1)) o.2 0 5 [(0, .ref (a 4)), (1, .int x1), (2, .int x2)] [] st := by
  intro H locs hP hD hS ls hl
  obtain ⟨hx, hb, hr, hml, hown, hts, hK, hA, hlocks, hZ⟩ := id CX
  unfold f_X_cutLastName at hF
  refine lv_iconst (v := (-1)) hx hb kd_X_cutLastName_0 (by decide) ?_
  refine lv_istore_n (lv' := [(3, .int (-1 : Int32)), (0, .ref (a 4)), (1, .int x1), (2, .int x2)]) hx hb kd_X_cutLastName_1 rfl hl (by decide) rfl (fun ls hl => ?_)
  refine lv_aload_n hx hb kd_X_cutLastName_2 rfl (lv_at hl 1 rfl) ?_
  refine lv_iload_n hx hb kd_X_cutLastName_3 rfl (lv_at hl 2 rfl) ?_
  refine lv_iload_n hx hb kd_X_cutLastName_4 rfl (lv_at hl 3 rfl) ?_
  obtain ⟨r1, e_r1, hF⟩ := fb_ob hF
  refine fb_callV (As := [.int x1, .int x2]) (rest := []) ⟨hx, hb, hml, hown, hts⟩ zX_mv hZ hK hP hD hS hA (c_X_isPath l dC dI dA a z x1 x2 st r1 e_r1) (cwV 2 hts (gd_V q_284 ko_X_isPath) rfl rfl rfl kh_X_isPath ⟨Nat.le_of_ble_eq_true rfl, Nat.le_of_ble_eq_true rfl⟩) 3 4 rfl rfl rfl rfl hl.1 rfl (Nat.le_of_ble_eq_true rfl) kd_X_cutLastName_5 ⟨Nat.zero_le _, Nat.zero_le _⟩ (fun H locs hP hD hS => ?_)
  refine W.eq (g2 := F0 m 8 ls [.int r1.1]) rfl ?_
  refine lv_if_eq (tgt := 43) hx hb kd_X_cutLastName_8 (by decide) (fun c2 => ?_) (fun c2 => ?_)
  · rw [if_pos c2] at hF
    exact w_X_cutLastName_43 CX o x2 (-1 : Int32) r1.2 hF H locs hP hD hS ls (lv_sub hl [1, 3, 0] rfl)
  · rw [if_neg c2] at hF
    refine lv_iload_n hx hb kd_X_cutLastName_11 rfl (lv_at hl 2 rfl) ?_
    refine lv_istore (lv' := [(4, .int x1), (3, .int (-1 : Int32)), (0, .ref (a 4)), (1, .int x1), (2, .int x2)]) hx hb kd_X_cutLastName_12 hl (by decide) rfl (fun ls hl => ?_)
    exact v_X_cutLastName_14 CX o fb_n x1 x2 (-1 : Int32) x1 r1.2 hF H locs hP hD hS ls (lv_sub hl [2, 3, 4, 1, 0] rfl)
theorem c_X_cutLastName (l : Launch) (dC : Nat → ClassId) (dI : Nat → Nat → Nat) (dA : Nat → ClassId) (a : Nat → Nat) (z : Nat → Nat) (x1 : Int32) (x2 : Int32) (st : fb_S) (o : Int32 × fb_S) (h : f_X_cutLastName x1 x2 st = some o) : fb_M l ky_X_cutLastName kw_X_cutLastName rm_X_cutLastName (dC, dI) vcl (tX dA) (wX dA a) (zX z) [.ref (a 4), .int x1, .int x2] (some (.int o.1)) st o.2 := fb_enter (by decide) rfl (Nat.le_of_ble_eq_true rfl) (fun p e s m below meth c A CX hP hD hS ls hl => w_X_cutLastName_0 CX o x1 x2 st h s.heap [] hP hD hS ls hl)
abbrev rm_D_nameByte_last : Room := { frames := 0, cells := 0, slots := 0, locals := 0 }
def f_D_nameByte_last (x2 : Int32) (st : fb_S) : Option (Int32 × fb_S) := (if x2 < (0 : Int32) then some ((0 : Int32), st) else (if (14 : Int32) ≤ x2 then some ((0 : Int32), st) else (fb_ld (st 4) 14 x2).bind fun v3 => some (v3 &&& (255 : Int32), st)))
set_option maxHeartbeats 4000000 in
set_option maxRecDepth 100000 in
theorem w_D_nameByte_last_0 {p : Program} {l : Launch} {e : Env} {s : State} {m : MethodId} {args : Array Value} {below : List Frame} {meth : Method} {c : Code} {A : Nat → Prop} {dC : Nat → ClassId} {dI : Nat → Nat → Nat} {dA : Nat → ClassId} {a : Nat → Nat} {z : Nat → Nat} (CX : fb_C p s m args meth c kc_D_nameByte (some .int) 3 "FileTree$Directories" (dC, dI) vcl (tX dA) A (zX z)) (o : Int32 × fb_S) (x2 : Int32) (st : fb_S) (hF : f_D_nameByte_last x2 st = some o) : fb_G p l e (headSpec kw_D_nameByte rm_D_nameByte_last).room s m args below meth c (dC, dI) vcl (tX dA) (wX dA a) A (some (.int o.1)) o.2 0 3 [(0, .ref (a 1)), (1, .ref (a 9)), (2, .int x2)] [] st := by
  intro H locs hP hD hS ls hl
  obtain ⟨hx, hb, hr, hml, hown, hts, hK, hA, hlocks, hZ⟩ := id CX
  unfold f_D_nameByte_last at hF
  refine lv_iload_n hx hb kd_D_nameByte_0 rfl (lv_at hl 2 rfl) ?_
  refine lv_if_lt (tgt := 20) hx hb kd_D_nameByte_1 (by decide) (fun c1 => ?_) (fun c1 => ?_)
  · rw [if_pos c1] at hF
    refine lv_iconst (v := 0) hx hb kd_D_nameByte_20 (by decide) ?_
    exact fb_ri (o := o) hx hb hr hlocks hK hP hD hS hF kd_D_nameByte_21
  · rw [if_neg c1] at hF
    refine lv_iload_n hx hb kd_D_nameByte_4 rfl (lv_at hl 2 rfl) ?_
    refine lv_aload_n hx hb kd_D_nameByte_5 rfl (lv_at hl 1 rfl) ?_
    refine va_alen (v := 14) hx hb hK hP 9 1 rfl rfl rfl kd_D_nameByte_6 ?_
    refine lv_icmp_ge (tgt := 20) hx hb kd_D_nameByte_7 (by decide) (fun c2 => ?_) (fun c2 => ?_)
    · rw [if_pos c2] at hF
      refine lv_iconst (v := 0) hx hb kd_D_nameByte_20 (by decide) ?_
      exact fb_ri (o := o) hx hb hr hlocks hK hP hD hS hF kd_D_nameByte_21
    · rw [if_neg c2] at hF
      refine lv_aload_n hx hb kd_D_nameByte_10 rfl (lv_at hl 1 rfl) ?_
      refine lv_iload_n hx hb kd_D_nameByte_11 rfl (lv_at hl 2 rfl) ?_
      obtain ⟨v3, e_v3, hF⟩ := fb_ob hF
      refine fb_bald hx hb hK hP 9 1 rfl rfl e_v3 kd_D_nameByte_12 ?_
      refine lv_sipush (v := 255) hx hb kd_D_nameByte_13 (by decide) ?_
      refine lv_iand hx hb kd_D_nameByte_16 ?_
      refine lv_goto (tgt := 21) hx hb kd_D_nameByte_17 (by decide) ?_
      exact fb_ri (o := o) hx hb hr hlocks hK hP hD hS hF kd_D_nameByte_21
theorem c_D_nameByte_last (l : Launch) (dC : Nat → ClassId) (dI : Nat → Nat → Nat) (dA : Nat → ClassId) (a : Nat → Nat) (z : Nat → Nat) (x2 : Int32) (st : fb_S) (o : Int32 × fb_S) (h : f_D_nameByte_last x2 st = some o) : fb_M l ky_D_nameByte kw_D_nameByte rm_D_nameByte_last (dC, dI) vcl (tX dA) (wX dA a) (zX z) [.ref (a 1), .ref (a 9), .int x2] (some (.int o.1)) st o.2 := fb_enter (by decide) rfl (Nat.le_of_ble_eq_true rfl) (fun p e s m below meth c A CX hP hD hS ls hl => w_D_nameByte_last_0 CX o x2 st h s.heap [] hP hD hS ls hl)
abbrev rm_D_hasName_last : Room := { frames := 1, cells := 0, slots := 0, locals := 24 }
def b_D_hasName_last_2 (k2 : Int32 → Int32 → fb_S → Option (Int32 × fb_S)) (x1 : Int32) (x3 : Int32) (st : fb_S) : Option (Int32 × fb_S) := (if (14 : Int32) ≤ x3 then fb_rz (1 : Int32) st else (f_K_partAt ((x1 + (2 : Int32)) + x3) (255 : Int32) st).bind fun r2 => (f_D_nameByte_last x3 r2.2).bind fun r3 => (if r2.1 = r3.1 then k2 x1 (x3 + (1 : Int32)) r3.2 else fb_rz (0 : Int32) r3.2))
set_option maxHeartbeats 4000000 in
set_option maxRecDepth 100000 in
theorem w_D_hasName_last_2 {p : Program} {l : Launch} {e : Env} {s : State} {m : MethodId} {args : Array Value} {below : List Frame} {meth : Method} {c : Code} {A : Nat → Prop} {dC : Nat → ClassId} {dI : Nat → Nat → Nat} {dA : Nat → ClassId} {a : Nat → Nat} {z : Nat → Nat} (CX : fb_C p s m args meth c kc_D_hasName (some .boolean) 4 "FileTree$Directories" (dC, dI) vcl (tX dA) A (zX z)) (o : Int32 × fb_S) (k2 : Int32 → Int32 → fb_S → Option (Int32 × fb_S)) (hk2 : ∀ (x1 : Int32) (x3 : Int32) (st : fb_S), k2 x1 x3 st = some o → fb_G p l e (headSpec kw_D_hasName rm_D_hasName_last).room s m args below meth c (dC, dI) vcl (tX dA) (wX dA a) A (some (.int o.1)) o.2 2 4 [(0, .ref (a 1)), (1, .int x1), (2, .ref (a 9)), (3, .int x3)] [] st) (x1 : Int32) (x3 : Int32) (st : fb_S) (hF : b_D_hasName_last_2 k2 x1 x3 st = some o) : fb_G p l e (headSpec kw_D_hasName rm_D_hasName_last).room s m args below meth c (dC, dI) vcl (tX dA) (wX dA a) A (some (.int o.1)) o.2 2 4 [(0, .ref (a 1)), (1, .int x1), (2, .ref (a 9)), (3, .int x3)] [] st := by
  intro H locs hP hD hS ls hl
  obtain ⟨hx, hb, hr, hml, hown, hts, hK, hA, hlocks, hZ⟩ := id CX
  unfold b_D_hasName_last_2 at hF
  refine lv_iload_n hx hb kd_D_hasName_2 rfl (lv_at hl 3 rfl) ?_
  refine lv_bipush (v := 14) hx hb kd_D_hasName_3 (by decide) ?_
  refine lv_icmp_ge (tgt := 40) hx hb kd_D_hasName_5 (by decide) (fun c1 => ?_) (fun c1 => ?_)
  · rw [if_pos c1] at hF
    refine lv_iconst (v := 1) hx hb kd_D_hasName_40 (by decide) ?_
    exact fb_rb (o := o) hx hb hr hlocks hK hP hD hS hF kd_D_hasName_41
  · rw [if_neg c1] at hF
    refine lv_aload_n hx hb kd_D_hasName_8 rfl (lv_at hl 0 rfl) ?_
    refine va_get (D := (dC, dI)) (ci := 0) (v := .ref (a 3)) (C := "FileTree$Directories") (T := ft_D) (N := 2) hx hb hts fi_D hown hK hP 1 rfl rfl 1 (by decide) (hts _ q_52) (fun _ h9 => h9) rfl kd_D_hasName_9 ?_
    refine lv_iload_n hx hb kd_D_hasName_12 rfl (lv_at hl 1 rfl) ?_
    refine lv_iconst (v := 2) hx hb kd_D_hasName_13 (by decide) ?_
    refine lv_iadd hx hb kd_D_hasName_14 ?_
    refine lv_iload_n hx hb kd_D_hasName_15 rfl (lv_at hl 3 rfl) ?_
    refine lv_iadd hx hb kd_D_hasName_16 ?_
    refine lv_sipush (v := 255) hx hb kd_D_hasName_17 (by decide) ?_
    obtain ⟨r2, e_r2, hF⟩ := fb_ob hF
    refine fb_callV (As := [.int ((x1 + (2 : Int32)) + x3), .int (255 : Int32)]) (rest := []) ⟨hx, hb, hml, hown, hts⟩ zX_mv hZ hK hP hD hS hA (c_K_partAt l dC dI dA a z ((x1 + (2 : Int32)) + x3) (255 : Int32) st r2 e_r2) (cwV 2 hts (gd_V q_159 ko_K_partAt) rfl rfl rfl kh_K_partAt ⟨Nat.le_of_ble_eq_true rfl, Nat.le_of_ble_eq_true rfl⟩) 1 3 rfl rfl rfl rfl hl.1 rfl (Nat.le_of_ble_eq_true rfl) kd_D_hasName_20 ⟨Nat.zero_le _, Nat.zero_le _⟩ (fun H locs hP hD hS => ?_)
    refine W.eq (g2 := F0 m 23 ls [.int r2.1]) rfl ?_
    refine lv_aload_n hx hb kd_D_hasName_23 rfl (lv_at hl 0 rfl) ?_
    refine lv_aload_n hx hb kd_D_hasName_24 rfl (lv_at hl 2 rfl) ?_
    refine lv_iload_n hx hb kd_D_hasName_25 rfl (lv_at hl 3 rfl) ?_
    obtain ⟨r3, e_r3, hF⟩ := fb_ob hF
    refine fb_callV (As := [.ref (a 9), .int x3]) (rest := [.int r2.1]) ⟨hx, hb, hml, hown, hts⟩ zX_mv hZ hK hP hD hS hA (c_D_nameByte_last l dC dI dA a z x3 r2.2 r3 e_r3) (cwV 2 hts (gd_V q_193 ko_D_nameByte) rfl rfl rfl kh_D_nameByte ⟨Nat.le_of_ble_eq_true rfl, Nat.le_of_ble_eq_true rfl⟩) 0 1 rfl rfl rfl rfl hl.1 rfl (Nat.le_of_ble_eq_true rfl) kd_D_hasName_26 ⟨Nat.zero_le _, Nat.zero_le _⟩ (fun H locs hP hD hS => ?_)
    refine W.eq (g2 := F0 m 29 ls [.int r3.1, .int r2.1]) rfl ?_
    refine lv_icmp_eq (tgt := 34) hx hb kd_D_hasName_29 (by decide) (fun c4 => ?_) (fun c4 => ?_)
    · rw [if_pos c4] at hF
      refine lv_iinc (v := x3 + (1 : Int32)) (lv' := [(3, .int (x3 + (1 : Int32))), (0, .ref (a 1)), (1, .int x1), (2, .ref (a 9))]) hx hb kd_D_hasName_34 hl (k := 3) rfl rfl (by decide) rfl (fun ls hl => ?_)
      refine lv_goto (tgt := 2) hx hb kd_D_hasName_37 (by decide) ?_
      exact hk2 x1 (x3 + (1 : Int32)) r3.2 hF H locs hP hD hS ls (lv_sub hl [1, 2, 3, 0] rfl)
    · rw [if_neg c4] at hF
      refine lv_iconst (v := 0) hx hb kd_D_hasName_32 (by decide) ?_
      exact fb_rb (o := o) hx hb hr hlocks hK hP hD hS hF kd_D_hasName_33
def l_D_hasName_last_2 : Nat → Int32 → Int32 → fb_S → Option (Int32 × fb_S)
  | 0 => fun _ _ _ => none
  | n + 1 => b_D_hasName_last_2 (l_D_hasName_last_2 n)
theorem v_D_hasName_last_2 {p : Program} {l : Launch} {e : Env} {s : State} {m : MethodId} {args : Array Value} {below : List Frame} {meth : Method} {c : Code} {A : Nat → Prop} {dC : Nat → ClassId} {dI : Nat → Nat → Nat} {dA : Nat → ClassId} {a : Nat → Nat} {z : Nat → Nat} (CX : fb_C p s m args meth c kc_D_hasName (some .boolean) 4 "FileTree$Directories" (dC, dI) vcl (tX dA) A (zX z)) (o : Int32 × fb_S) (n : Nat) : ∀ (x1 : Int32) (x3 : Int32) (st : fb_S), l_D_hasName_last_2 n x1 x3 st = some o → fb_G p l e (headSpec kw_D_hasName rm_D_hasName_last).room s m args below meth c (dC, dI) vcl (tX dA) (wX dA a) A (some (.int o.1)) o.2 2 4 [(0, .ref (a 1)), (1, .int x1), (2, .ref (a 9)), (3, .int x3)] [] st := by
  induction n with
  | zero => intro x1 x3 st hF; cases hF
  | succ n ih => intro x1 x3 st hF; exact w_D_hasName_last_2 CX o (l_D_hasName_last_2 n) ih x1 x3 st hF
def f_D_hasName_last (x1 : Int32) (st : fb_S) : Option (Int32 × fb_S) := l_D_hasName_last_2 fb_n x1 (0 : Int32) st
set_option maxHeartbeats 4000000 in
set_option maxRecDepth 100000 in
theorem w_D_hasName_last_0 {p : Program} {l : Launch} {e : Env} {s : State} {m : MethodId} {args : Array Value} {below : List Frame} {meth : Method} {c : Code} {A : Nat → Prop} {dC : Nat → ClassId} {dI : Nat → Nat → Nat} {dA : Nat → ClassId} {a : Nat → Nat} {z : Nat → Nat} (CX : fb_C p s m args meth c kc_D_hasName (some .boolean) 4 "FileTree$Directories" (dC, dI) vcl (tX dA) A (zX z)) (o : Int32 × fb_S) (x1 : Int32) (st : fb_S) (hF : f_D_hasName_last x1 st = some o) : fb_G p l e (headSpec kw_D_hasName rm_D_hasName_last).room s m args below meth c (dC, dI) vcl (tX dA) (wX dA a) A (some (.int o.1)) o.2 0 4 [(0, .ref (a 1)), (1, .int x1), (2, .ref (a 9))] [] st := by
  intro H locs hP hD hS ls hl
  obtain ⟨hx, hb, hr, hml, hown, hts, hK, hA, hlocks, hZ⟩ := id CX
  unfold f_D_hasName_last at hF
  refine lv_iconst (v := 0) hx hb kd_D_hasName_0 (by decide) ?_
  refine lv_istore_n (lv' := [(3, .int (0 : Int32)), (0, .ref (a 1)), (1, .int x1), (2, .ref (a 9))]) hx hb kd_D_hasName_1 rfl hl (by decide) rfl (fun ls hl => ?_)
  exact v_D_hasName_last_2 CX o fb_n x1 (0 : Int32) st hF H locs hP hD hS ls (lv_sub hl [1, 2, 3, 0] rfl)
theorem c_D_hasName_last (l : Launch) (dC : Nat → ClassId) (dI : Nat → Nat → Nat) (dA : Nat → ClassId) (a : Nat → Nat) (z : Nat → Nat) (x1 : Int32) (st : fb_S) (o : Int32 × fb_S) (h : f_D_hasName_last x1 st = some o) : fb_M l ky_D_hasName kw_D_hasName rm_D_hasName_last (dC, dI) vcl (tX dA) (wX dA a) (zX z) [.ref (a 1), .int x1, .ref (a 9)] (some (.int o.1)) st o.2 := fb_enter (by decide) rfl (Nat.le_of_ble_eq_true rfl) (fun p e s m below meth c A CX hP hD hS ls hl => w_D_hasName_last_0 CX o x1 st h s.heap [] hP hD hS ls hl)
abbrev rm_D_entryNamed_last : Room := { frames := 3, cells := 0, slots := 0, locals := 68 }
def b_D_entryNamed_last_54 (k9 : Int32 → Int32 → Int32 → fb_S → Option (Int32 × fb_S)) (x1 : Int32) (x3 : Int32) (x4 : Int32) (st : fb_S) : Option (Int32 × fb_S) := k9 x1 x3 (x4 + (16 : Int32)) st
set_option maxHeartbeats 4000000 in
set_option maxRecDepth 100000 in
theorem w_D_entryNamed_last_54 {p : Program} {l : Launch} {e : Env} {s : State} {m : MethodId} {args : Array Value} {below : List Frame} {meth : Method} {c : Code} {A : Nat → Prop} {dC : Nat → ClassId} {dI : Nat → Nat → Nat} {dA : Nat → ClassId} {a : Nat → Nat} {z : Nat → Nat} (CX : fb_C p s m args meth c kc_D_entryNamed (some .int) 6 "FileTree$Directories" (dC, dI) vcl (tX dA) A (zX z)) (o : Int32 × fb_S) (k9 : Int32 → Int32 → Int32 → fb_S → Option (Int32 × fb_S)) (hk9 : ∀ (x1 : Int32) (x3 : Int32) (x4 : Int32) (st : fb_S), k9 x1 x3 x4 st = some o → fb_G p l e (headSpec kw_D_entryNamed rm_D_entryNamed_last).room s m args below meth c (dC, dI) vcl (tX dA) (wX dA a) A (some (.int o.1)) o.2 9 6 [(0, .ref (a 1)), (1, .int x1), (2, .ref (a 9)), (3, .int x3), (4, .int x4)] [] st) (x1 : Int32) (x3 : Int32) (x4 : Int32) (st : fb_S) (hF : b_D_entryNamed_last_54 k9 x1 x3 x4 st = some o) : fb_G p l e (headSpec kw_D_entryNamed rm_D_entryNamed_last).room s m args below meth c (dC, dI) vcl (tX dA) (wX dA a) A (some (.int o.1)) o.2 54 6 [(0, .ref (a 1)), (1, .int x1), (2, .ref (a 9)), (3, .int x3), (4, .int x4)] [] st := by
  intro H locs hP hD hS ls hl
  obtain ⟨hx, hb, hr, hml, hown, hts, hK, hA, hlocks, hZ⟩ := id CX
  unfold b_D_entryNamed_last_54 at hF
  refine lv_iinc (v := x4 + (16 : Int32)) (lv' := [(4, .int (x4 + (16 : Int32))), (0, .ref (a 1)), (1, .int x1), (2, .ref (a 9)), (3, .int x3)]) hx hb kd_D_entryNamed_54 hl (k := 4) rfl rfl (by decide) rfl (fun ls hl => ?_)
  refine lv_goto (tgt := 9) hx hb kd_D_entryNamed_57 (by decide) ?_
  exact hk9 x1 x3 (x4 + (16 : Int32)) st hF H locs hP hD hS ls (lv_sub hl [1, 2, 3, 4, 0] rfl)
def b_D_entryNamed_last_9 (k9 : Int32 → Int32 → Int32 → fb_S → Option (Int32 × fb_S)) (x1 : Int32) (x3 : Int32) (x4 : Int32) (st : fb_S) : Option (Int32 × fb_S) := (if x3 ≤ x4 then some ((-1 : Int32), st) else (f_I_placeOfByte x1 x4 st).bind fun r2 => (f_K_partAt r2.1 (65535 : Int32) r2.2).bind fun r3 => (if r3.1 = (0 : Int32) then b_D_entryNamed_last_54 k9 x1 x3 x4 r3.2 else (f_D_hasName_last r2.1 r3.2).bind fun r5 => (if r5.1 = (0 : Int32) then b_D_entryNamed_last_54 k9 x1 x3 x4 r5.2 else some (r2.1, r5.2))))
set_option maxHeartbeats 4000000 in
set_option maxRecDepth 100000 in
theorem w_D_entryNamed_last_9 {p : Program} {l : Launch} {e : Env} {s : State} {m : MethodId} {args : Array Value} {below : List Frame} {meth : Method} {c : Code} {A : Nat → Prop} {dC : Nat → ClassId} {dI : Nat → Nat → Nat} {dA : Nat → ClassId} {a : Nat → Nat} {z : Nat → Nat} (CX : fb_C p s m args meth c kc_D_entryNamed (some .int) 6 "FileTree$Directories" (dC, dI) vcl (tX dA) A (zX z)) (o : Int32 × fb_S) (k9 : Int32 → Int32 → Int32 → fb_S → Option (Int32 × fb_S)) (hk9 : ∀ (x1 : Int32) (x3 : Int32) (x4 : Int32) (st : fb_S), k9 x1 x3 x4 st = some o → fb_G p l e (headSpec kw_D_entryNamed rm_D_entryNamed_last).room s m args below meth c (dC, dI) vcl (tX dA) (wX dA a) A (some (.int o.1)) o.2 9 6 [(0, .ref (a 1)), (1, .int x1), (2, .ref (a 9)), (3, .int x3), (4, .int x4)] [] st) (x1 : Int32) (x3 : Int32) (x4 : Int32) (st : fb_S) (hF : b_D_entryNamed_last_9 k9 x1 x3 x4 st = some o) : fb_G p l e (headSpec kw_D_entryNamed rm_D_entryNamed_last).room s m args below meth c (dC, dI) vcl (tX dA) (wX dA a) A (some (.int o.1)) o.2 9 6 [(0, .ref (a 1)), (1, .int x1), (2, .ref (a 9)), (3, .int x3), (4, .int x4)] [] st := by
  intro H locs hP hD hS ls hl
  obtain ⟨hx, hb, hr, hml, hown, hts, hK, hA, hlocks, hZ⟩ := id CX
  unfold b_D_entryNamed_last_9 at hF
  refine lv_iload hx hb kd_D_entryNamed_9 (lv_at hl 4 rfl) ?_
  refine lv_iload_n hx hb kd_D_entryNamed_11 rfl (lv_at hl 3 rfl) ?_
  refine lv_icmp_ge (tgt := 60) hx hb kd_D_entryNamed_12 (by decide) (fun c1 => ?_) (fun c1 => ?_)
  · rw [if_pos c1] at hF
    refine lv_iconst (v := (-1)) hx hb kd_D_entryNamed_60 (by decide) ?_
    exact fb_ri (o := o) hx hb hr hlocks hK hP hD hS hF kd_D_entryNamed_61
  · rw [if_neg c1] at hF
    refine lv_aload_n hx hb kd_D_entryNamed_15 rfl (lv_at hl 0 rfl) ?_
    refine va_get (D := (dC, dI)) (ci := 0) (v := .ref (a 2)) (C := "FileTree$Directories") (T := ft_D) (N := 2) hx hb hts fi_D hown hK hP 1 rfl rfl 0 (by decide) (hts _ q_50) (fun _ h9 => h9) rfl kd_D_entryNamed_16 ?_
    refine lv_iload_n hx hb kd_D_entryNamed_19 rfl (lv_at hl 1 rfl) ?_
    refine lv_iload hx hb kd_D_entryNamed_20 (lv_at hl 4 rfl) ?_
    obtain ⟨r2, e_r2, hF⟩ := fb_ob hF
    refine fb_callV (As := [.int x1, .int x4]) (rest := []) ⟨hx, hb, hml, hown, hts⟩ zX_mv hZ hK hP hD hS hA (c_I_placeOfByte l dC dI dA a z x1 x4 st r2 e_r2) (cwV 2 hts (gd_V q_150 ko_I_placeOfByte) rfl rfl rfl kh_I_placeOfByte ⟨Nat.le_of_ble_eq_true rfl, Nat.le_of_ble_eq_true rfl⟩) 2 2 rfl rfl rfl rfl hl.1 rfl (Nat.le_of_ble_eq_true rfl) kd_D_entryNamed_22 ⟨Nat.zero_le _, Nat.zero_le _⟩ (fun H locs hP hD hS => ?_)
    refine W.eq (g2 := F0 m 25 ls [.int r2.1]) rfl ?_
    refine lv_istore (lv' := [(5, .int r2.1), (0, .ref (a 1)), (1, .int x1), (2, .ref (a 9)), (3, .int x3), (4, .int x4)]) hx hb kd_D_entryNamed_25 hl (by decide) rfl (fun ls hl => ?_)
    refine lv_aload_n hx hb kd_D_entryNamed_27 rfl (lv_at hl 1 rfl) ?_
    refine va_get (D := (dC, dI)) (ci := 0) (v := .ref (a 3)) (C := "FileTree$Directories") (T := ft_D) (N := 2) hx hb hts fi_D hown hK hP 1 rfl rfl 1 (by decide) (hts _ q_52) (fun _ h9 => h9) rfl kd_D_entryNamed_28 ?_
    refine lv_iload hx hb kd_D_entryNamed_31 (lv_at hl 0 rfl) ?_
    refine lv_ldc (v := 65535) hx hb hown (hts _ q_158) kd_D_entryNamed_33 ?_
    obtain ⟨r3, e_r3, hF⟩ := fb_ob hF
    refine fb_callV (As := [.int r2.1, .int (65535 : Int32)]) (rest := []) ⟨hx, hb, hml, hown, hts⟩ zX_mv hZ hK hP hD hS hA (c_K_partAt l dC dI dA a z r2.1 (65535 : Int32) r2.2 r3 e_r3) (cwV 2 hts (gd_V q_159 ko_K_partAt) rfl rfl rfl kh_K_partAt ⟨Nat.le_of_ble_eq_true rfl, Nat.le_of_ble_eq_true rfl⟩) 1 3 rfl rfl rfl rfl hl.1 rfl (Nat.le_of_ble_eq_true rfl) kd_D_entryNamed_35 ⟨Nat.zero_le _, Nat.zero_le _⟩ (fun H locs hP hD hS => ?_)
    refine W.eq (g2 := F0 m 38 ls [.int r3.1]) rfl ?_
    refine lv_if_eq (tgt := 54) hx hb kd_D_entryNamed_38 (by decide) (fun c4 => ?_) (fun c4 => ?_)
    · rw [if_pos c4] at hF
      exact w_D_entryNamed_last_54 CX o k9 hk9 x1 x3 x4 r3.2 hF H locs hP hD hS ls (lv_sub hl [1, 2, 3, 4, 5] rfl)
    · rw [if_neg c4] at hF
      refine lv_aload_n hx hb kd_D_entryNamed_41 rfl (lv_at hl 1 rfl) ?_
      refine lv_iload hx hb kd_D_entryNamed_42 (lv_at hl 0 rfl) ?_
      refine lv_aload_n hx hb kd_D_entryNamed_44 rfl (lv_at hl 3 rfl) ?_
      obtain ⟨r5, e_r5, hF⟩ := fb_ob hF
      refine fb_callV (As := [.int r2.1, .ref (a 9)]) (rest := []) ⟨hx, hb, hml, hown, hts⟩ zX_mv hZ hK hP hD hS hA (c_D_hasName_last l dC dI dA a z r2.1 r3.2 r5 e_r5) (cwV 2 hts (gd_V q_266 ko_D_hasName) rfl rfl rfl kh_D_hasName ⟨Nat.le_of_ble_eq_true rfl, Nat.le_of_ble_eq_true rfl⟩) 0 1 rfl rfl rfl rfl hl.1 rfl (Nat.le_of_ble_eq_true rfl) kd_D_entryNamed_45 ⟨Nat.zero_le _, Nat.zero_le _⟩ (fun H locs hP hD hS => ?_)
      refine W.eq (g2 := F0 m 48 ls [.int r5.1]) rfl ?_
      refine lv_if_eq (tgt := 54) hx hb kd_D_entryNamed_48 (by decide) (fun c6 => ?_) (fun c6 => ?_)
      · rw [if_pos c6] at hF
        exact w_D_entryNamed_last_54 CX o k9 hk9 x1 x3 x4 r5.2 hF H locs hP hD hS ls (lv_sub hl [1, 2, 3, 4, 5] rfl)
      · rw [if_neg c6] at hF
        refine lv_iload hx hb kd_D_entryNamed_51 (lv_at hl 0 rfl) ?_
        exact fb_ri (o := o) hx hb hr hlocks hK hP hD hS hF kd_D_entryNamed_53
def l_D_entryNamed_last_9 : Nat → Int32 → Int32 → Int32 → fb_S → Option (Int32 × fb_S)
  | 0 => fun _ _ _ _ => none
  | n + 1 => b_D_entryNamed_last_9 (l_D_entryNamed_last_9 n)
theorem v_D_entryNamed_last_9 {p : Program} {l : Launch} {e : Env} {s : State} {m : MethodId} {args : Array Value} {below : List Frame} {meth : Method} {c : Code} {A : Nat → Prop} {dC : Nat → ClassId} {dI : Nat → Nat → Nat} {dA : Nat → ClassId} {a : Nat → Nat} {z : Nat → Nat} (CX : fb_C p s m args meth c kc_D_entryNamed (some .int) 6 "FileTree$Directories" (dC, dI) vcl (tX dA) A (zX z)) (o : Int32 × fb_S) (n : Nat) : ∀ (x1 : Int32) (x3 : Int32) (x4 : Int32) (st : fb_S), l_D_entryNamed_last_9 n x1 x3 x4 st = some o → fb_G p l e (headSpec kw_D_entryNamed rm_D_entryNamed_last).room s m args below meth c (dC, dI) vcl (tX dA) (wX dA a) A (some (.int o.1)) o.2 9 6 [(0, .ref (a 1)), (1, .int x1), (2, .ref (a 9)), (3, .int x3), (4, .int x4)] [] st := by
  induction n with
  | zero => intro x1 x3 x4 st hF; cases hF
  | succ n ih => intro x1 x3 x4 st hF; exact w_D_entryNamed_last_9 CX o (l_D_entryNamed_last_9 n) ih x1 x3 x4 st hF
def f_D_entryNamed_last (x1 : Int32) (st : fb_S) : Option (Int32 × fb_S) := (f_D_sizeOf x1 st).bind fun r1 => l_D_entryNamed_last_9 fb_n x1 r1.1 (0 : Int32) r1.2
set_option maxHeartbeats 4000000 in
set_option maxRecDepth 100000 in
theorem w_D_entryNamed_last_0 {p : Program} {l : Launch} {e : Env} {s : State} {m : MethodId} {args : Array Value} {below : List Frame} {meth : Method} {c : Code} {A : Nat → Prop} {dC : Nat → ClassId} {dI : Nat → Nat → Nat} {dA : Nat → ClassId} {a : Nat → Nat} {z : Nat → Nat} (CX : fb_C p s m args meth c kc_D_entryNamed (some .int) 6 "FileTree$Directories" (dC, dI) vcl (tX dA) A (zX z)) (o : Int32 × fb_S) (x1 : Int32) (st : fb_S) (hF : f_D_entryNamed_last x1 st = some o) : fb_G p l e (headSpec kw_D_entryNamed rm_D_entryNamed_last).room s m args below meth c (dC, dI) vcl (tX dA) (wX dA a) A (some (.int o.1)) o.2 0 6 [(0, .ref (a 1)), (1, .int x1), (2, .ref (a 9))] [] st := by
  intro H locs hP hD hS ls hl
  obtain ⟨hx, hb, hr, hml, hown, hts, hK, hA, hlocks, hZ⟩ := id CX
  unfold f_D_entryNamed_last at hF
  refine lv_aload_n hx hb kd_D_entryNamed_0 rfl (lv_at hl 0 rfl) ?_
  refine lv_iload_n hx hb kd_D_entryNamed_1 rfl (lv_at hl 1 rfl) ?_
  obtain ⟨r1, e_r1, hF⟩ := fb_ob hF
  refine fb_callV (As := [.int x1]) (rest := []) ⟨hx, hb, hml, hown, hts⟩ zX_mv hZ hK hP hD hS hA (c_D_sizeOf l dC dI dA a z x1 st r1 e_r1) (cwV 1 hts (gd_V q_133 ko_D_sizeOf) rfl rfl rfl kh_D_sizeOf ⟨Nat.le_of_ble_eq_true rfl, Nat.le_of_ble_eq_true rfl⟩) 0 1 rfl rfl rfl rfl hl.1 rfl (Nat.le_of_ble_eq_true rfl) kd_D_entryNamed_2 ⟨Nat.zero_le _, Nat.zero_le _⟩ (fun H locs hP hD hS => ?_)
  refine W.eq (g2 := F0 m 5 ls [.int r1.1]) rfl ?_
  refine lv_istore_n (lv' := [(3, .int r1.1), (0, .ref (a 1)), (1, .int x1), (2, .ref (a 9))]) hx hb kd_D_entryNamed_5 rfl hl (by decide) rfl (fun ls hl => ?_)
  refine lv_iconst (v := 0) hx hb kd_D_entryNamed_6 (by decide) ?_
  refine lv_istore (lv' := [(4, .int (0 : Int32)), (3, .int r1.1), (0, .ref (a 1)), (1, .int x1), (2, .ref (a 9))]) hx hb kd_D_entryNamed_7 hl (by decide) rfl (fun ls hl => ?_)
  exact v_D_entryNamed_last_9 CX o fb_n x1 r1.1 (0 : Int32) r1.2 hF H locs hP hD hS ls (lv_sub hl [2, 3, 4, 1, 0] rfl)
theorem c_D_entryNamed_last (l : Launch) (dC : Nat → ClassId) (dI : Nat → Nat → Nat) (dA : Nat → ClassId) (a : Nat → Nat) (z : Nat → Nat) (x1 : Int32) (st : fb_S) (o : Int32 × fb_S) (h : f_D_entryNamed_last x1 st = some o) : fb_M l ky_D_entryNamed kw_D_entryNamed rm_D_entryNamed_last (dC, dI) vcl (tX dA) (wX dA a) (zX z) [.ref (a 1), .int x1, .ref (a 9)] (some (.int o.1)) st o.2 := fb_enter (by decide) rfl (Nat.le_of_ble_eq_true rfl) (fun p e s m below meth c A CX hP hD hS ls hl => w_D_entryNamed_last_0 CX o x1 st h s.heap [] hP hD hS ls hl)
abbrev rm_I_leastFree : Room := { frames := 3, cells := 0, slots := 0, locals := 66 }
def b_I_leastFree_2 (k2 : Int32 → fb_S → Option (Int32 × fb_S)) (x1 : Int32) (st : fb_S) : Option (Int32 × fb_S) := (if (64 : Int32) ≤ x1 then some ((-1 : Int32), st) else (f_I_inUse x1 st).bind fun r2 => (if r2.1 = (0 : Int32) then some (x1, r2.2) else k2 (x1 + (1 : Int32)) r2.2))
set_option maxHeartbeats 4000000 in
set_option maxRecDepth 100000 in
theorem w_I_leastFree_2 {p : Program} {l : Launch} {e : Env} {s : State} {m : MethodId} {args : Array Value} {below : List Frame} {meth : Method} {c : Code} {A : Nat → Prop} {dC : Nat → ClassId} {dI : Nat → Nat → Nat} {dA : Nat → ClassId} {a : Nat → Nat} {z : Nat → Nat} (CX : fb_C p s m args meth c kc_I_leastFree (some .int) 2 "FileTree$Inodes" (dC, dI) vcl (tX dA) A (zX z)) (o : Int32 × fb_S) (k2 : Int32 → fb_S → Option (Int32 × fb_S)) (hk2 : ∀ (x1 : Int32) (st : fb_S), k2 x1 st = some o → fb_G p l e (headSpec kw_I_leastFree rm_I_leastFree).room s m args below meth c (dC, dI) vcl (tX dA) (wX dA a) A (some (.int o.1)) o.2 2 2 [(0, .ref (a 2)), (1, .int x1)] [] st) (x1 : Int32) (st : fb_S) (hF : b_I_leastFree_2 k2 x1 st = some o) : fb_G p l e (headSpec kw_I_leastFree rm_I_leastFree).room s m args below meth c (dC, dI) vcl (tX dA) (wX dA a) A (some (.int o.1)) o.2 2 2 [(0, .ref (a 2)), (1, .int x1)] [] st := by
  intro H locs hP hD hS ls hl
  obtain ⟨hx, hb, hr, hml, hown, hts, hK, hA, hlocks, hZ⟩ := id CX
  unfold b_I_leastFree_2 at hF
  refine lv_iload_n hx hb kd_I_leastFree_2 rfl (lv_at hl 1 rfl) ?_
  refine lv_bipush (v := 64) hx hb kd_I_leastFree_3 (by decide) ?_
  refine lv_icmp_ge (tgt := 24) hx hb kd_I_leastFree_5 (by decide) (fun c1 => ?_) (fun c1 => ?_)
  · rw [if_pos c1] at hF
    refine lv_iconst (v := (-1)) hx hb kd_I_leastFree_24 (by decide) ?_
    exact fb_ri (o := o) hx hb hr hlocks hK hP hD hS hF kd_I_leastFree_25
  · rw [if_neg c1] at hF
    refine lv_aload_n hx hb kd_I_leastFree_8 rfl (lv_at hl 0 rfl) ?_
    refine lv_iload_n hx hb kd_I_leastFree_9 rfl (lv_at hl 1 rfl) ?_
    obtain ⟨r2, e_r2, hF⟩ := fb_ob hF
    refine fb_callV (As := [.int x1]) (rest := []) ⟨hx, hb, hml, hown, hts⟩ zX_mv hZ hK hP hD hS hA (c_I_inUse l dC dI dA a z x1 st r2 e_r2) (cwV 1 hts (gd_V q_292 ko_I_inUse) rfl rfl rfl kh_I_inUse ⟨Nat.le_of_ble_eq_true rfl, Nat.le_of_ble_eq_true rfl⟩) 2 2 rfl rfl rfl rfl hl.1 rfl (Nat.le_of_ble_eq_true rfl) kd_I_leastFree_10 ⟨Nat.zero_le _, Nat.zero_le _⟩ (fun H locs hP hD hS => ?_)
    refine W.eq (g2 := F0 m 13 ls [.int r2.1]) rfl ?_
    refine lv_if_ne (tgt := 18) hx hb kd_I_leastFree_13 (by decide) (fun c3 => ?_) (fun c3 => ?_)
    · rw [if_neg c3] at hF
      refine lv_iinc (v := x1 + (1 : Int32)) (lv' := [(1, .int (x1 + (1 : Int32))), (0, .ref (a 2))]) hx hb kd_I_leastFree_18 hl (k := 1) rfl rfl (by decide) rfl (fun ls hl => ?_)
      refine lv_goto (tgt := 2) hx hb kd_I_leastFree_21 (by decide) ?_
      exact hk2 (x1 + (1 : Int32)) r2.2 hF H locs hP hD hS ls (lv_sub hl [1, 0] rfl)
    · rw [if_pos c3] at hF
      refine lv_iload_n hx hb kd_I_leastFree_16 rfl (lv_at hl 1 rfl) ?_
      exact fb_ri (o := o) hx hb hr hlocks hK hP hD hS hF kd_I_leastFree_17
def l_I_leastFree_2 : Nat → Int32 → fb_S → Option (Int32 × fb_S)
  | 0 => fun _ _ => none
  | n + 1 => b_I_leastFree_2 (l_I_leastFree_2 n)
theorem v_I_leastFree_2 {p : Program} {l : Launch} {e : Env} {s : State} {m : MethodId} {args : Array Value} {below : List Frame} {meth : Method} {c : Code} {A : Nat → Prop} {dC : Nat → ClassId} {dI : Nat → Nat → Nat} {dA : Nat → ClassId} {a : Nat → Nat} {z : Nat → Nat} (CX : fb_C p s m args meth c kc_I_leastFree (some .int) 2 "FileTree$Inodes" (dC, dI) vcl (tX dA) A (zX z)) (o : Int32 × fb_S) (n : Nat) : ∀ (x1 : Int32) (st : fb_S), l_I_leastFree_2 n x1 st = some o → fb_G p l e (headSpec kw_I_leastFree rm_I_leastFree).room s m args below meth c (dC, dI) vcl (tX dA) (wX dA a) A (some (.int o.1)) o.2 2 2 [(0, .ref (a 2)), (1, .int x1)] [] st := by
  induction n with
  | zero => intro x1 st hF; cases hF
  | succ n ih => intro x1 st hF; exact w_I_leastFree_2 CX o (l_I_leastFree_2 n) ih x1 st hF
def f_I_leastFree (st : fb_S) : Option (Int32 × fb_S) := l_I_leastFree_2 fb_n (1 : Int32) st
set_option maxHeartbeats 4000000 in
set_option maxRecDepth 100000 in
theorem w_I_leastFree_0 {p : Program} {l : Launch} {e : Env} {s : State} {m : MethodId} {args : Array Value} {below : List Frame} {meth : Method} {c : Code} {A : Nat → Prop} {dC : Nat → ClassId} {dI : Nat → Nat → Nat} {dA : Nat → ClassId} {a : Nat → Nat} {z : Nat → Nat} (CX : fb_C p s m args meth c kc_I_leastFree (some .int) 2 "FileTree$Inodes" (dC, dI) vcl (tX dA) A (zX z)) (o : Int32 × fb_S) (st : fb_S) (hF : f_I_leastFree st = some o) : fb_G p l e (headSpec kw_I_leastFree rm_I_leastFree).room s m args below meth c (dC, dI) vcl (tX dA) (wX dA a) A (some (.int o.1)) o.2 0 2 [(0, .ref (a 2))] [] st := by
  intro H locs hP hD hS ls hl
  obtain ⟨hx, hb, hr, hml, hown, hts, hK, hA, hlocks, hZ⟩ := id CX
  unfold f_I_leastFree at hF
  refine lv_iconst (v := 1) hx hb kd_I_leastFree_0 (by decide) ?_
  refine lv_istore_n (lv' := [(1, .int (1 : Int32)), (0, .ref (a 2))]) hx hb kd_I_leastFree_1 rfl hl (by decide) rfl (fun ls hl => ?_)
  exact v_I_leastFree_2 CX o fb_n (1 : Int32) st hF H locs hP hD hS ls (lv_sub hl [1, 0] rfl)
theorem c_I_leastFree (l : Launch) (dC : Nat → ClassId) (dI : Nat → Nat → Nat) (dA : Nat → ClassId) (a : Nat → Nat) (z : Nat → Nat) (st : fb_S) (o : Int32 × fb_S) (h : f_I_leastFree st = some o) : fb_M l ky_I_leastFree kw_I_leastFree rm_I_leastFree (dC, dI) vcl (tX dA) (wX dA a) (zX z) [.ref (a 2)] (some (.int o.1)) st o.2 := fb_enter (by decide) rfl (Nat.le_of_ble_eq_true rfl) (fun p e s m below meth c A CX hP hD hS ls hl => w_I_leastFree_0 CX o st h s.heap [] hP hD hS ls hl)
