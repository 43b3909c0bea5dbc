abbrev rm_X_copyName_name : Room := { frames := 1, cells := 0, slots := 0, locals := 21 }
def b_X_copyName_name_67 (k6 : Int32 → Int32 → Int32 → Int32 → fb_S → Option (Int32 × fb_S)) (x2 : Int32) (x3 : Int32) (x4 : Int32) (x5 : Int32) (y0 : Int32) (y1 : Int32) (st : fb_S) : Option (Int32 × fb_S) := (fb_st st 3 14 y1 (fb_b y0)).bind fun s1 => k6 x2 x3 x4 (x5 + (1 : Int32)) s1
set_option maxHeartbeats 4000000 in
set_option maxRecDepth 100000 in
theorem w_X_copyName_name_67 {p : Program} {l : Launch} {e : Env} {s : State} {m : MethodId} {args : Array Value} {below : List Frame} {meth : Method} {c : Code} {A : Nat → Prop} {dC : Nat → ClassId} {dI : Nat → Nat → Nat} {dA : Nat → ClassId} {a : Nat → Nat} {z : Nat → Nat} (CX : fb_C p s m args meth c kc_X_copyName none 6 "FileTree$Text" (dC, dI) vcl (tX dA) A (zX z)) (o : Int32 × fb_S) (k6 : Int32 → Int32 → Int32 → Int32 → fb_S → Option (Int32 × fb_S)) (hk6 : ∀ (x2 : Int32) (x3 : Int32) (x4 : Int32) (x5 : Int32) (st : fb_S), k6 x2 x3 x4 x5 st = some o → fb_G p l e (headSpec kw_X_copyName rm_X_copyName_name).room s m args below meth c (dC, dI) vcl (tX dA) (wX dA a) A none o.2 6 6 [(0, .ref (a 4)), (1, .ref (a 8)), (2, .int x2), (3, .int x3), (4, .int x4), (5, .int x5)] [] st) (x2 : Int32) (x3 : Int32) (x4 : Int32) (x5 : Int32) (y0 : Int32) (y1 : Int32) (st : fb_S) (hF : b_X_copyName_name_67 k6 x2 x3 x4 x5 y0 y1 st = some o) : fb_G p l e (headSpec kw_X_copyName rm_X_copyName_name).room s m args below meth c (dC, dI) vcl (tX dA) (wX dA a) A none o.2 67 6 [(0, .ref (a 4)), (1, .ref (a 8)), (2, .int x2), (3, .int x3), (4, .int x4), (5, .int x5)] [.int y0, .int y1, .ref (a 8)] st := by
  intro H locs hP hD hS ls hl
  obtain ⟨hx, hb, hr, hml, hown, hts, hK, hA, hlocks, hZ⟩ := id CX
  unfold b_X_copyName_name_67 at hF
  obtain ⟨s1, e_s1, hF⟩ := fb_ob hF
  refine fb_bast (wx := (wX dA a)) (k := 3) hx hb hK hP hD hS 8 1 rfl rfl e_s1 (fun _ => rfl) kd_X_copyName_67 (fun H locs hP hD hS => ?_)
  refine lv_iinc (v := x5 + (1 : Int32)) (lv' := [(5, .int (x5 + (1 : Int32))), (0, .ref (a 4)), (1, .ref (a 8)), (2, .int x2), (3, .int x3), (4, .int x4)]) hx hb kd_X_copyName_68 hl (k := 5) rfl rfl (by decide) rfl (fun ls hl => ?_)
  refine lv_goto (tgt := 6) hx hb kd_X_copyName_71 (by decide) ?_
  exact hk6 x2 x3 x4 (x5 + (1 : Int32)) s1 hF H locs hP hD hS ls (lv_sub hl [1, 2, 3, 4, 5, 0] rfl)
def b_X_copyName_name_44 (k6 : Int32 → Int32 → Int32 → Int32 → fb_S → Option (Int32 × fb_S)) (x2 : Int32) (x3 : Int32) (x5 : Int32) (y0 : Int32) (st : fb_S) : Option (Int32 × fb_S) := (if y0 = (0 : Int32) then b_X_copyName_name_67 k6 x2 x3 y0 x5 (0 : Int32) x5 st else (f_X_byteAt (x2 + x5) st).bind fun r2 => b_X_copyName_name_67 k6 x2 x3 y0 x5 (fb_b r2.1) x5 r2.2)
set_option maxHeartbeats 4000000 in
set_option maxRecDepth 100000 in
theorem w_X_copyName_name_44 {p : Program} {l : Launch} {e : Env} {s : State} {m : MethodId} {args : Array Value} {below : List Frame} {meth : Method} {c : Code} {A : Nat → Prop} {dC : Nat → ClassId} {dI : Nat → Nat → Nat} {dA : Nat → ClassId} {a : Nat → Nat} {z : Nat → Nat} (CX : fb_C p s m args meth c kc_X_copyName none 6 "FileTree$Text" (dC, dI) vcl (tX dA) A (zX z)) (o : Int32 × fb_S) (k6 : Int32 → Int32 → Int32 → Int32 → fb_S → Option (Int32 × fb_S)) (hk6 : ∀ (x2 : Int32) (x3 : Int32) (x4 : Int32) (x5 : Int32) (st : fb_S), k6 x2 x3 x4 x5 st = some o → fb_G p l e (headSpec kw_X_copyName rm_X_copyName_name).room s m args below meth c (dC, dI) vcl (tX dA) (wX dA a) A none o.2 6 6 [(0, .ref (a 4)), (1, .ref (a 8)), (2, .int x2), (3, .int x3), (4, .int x4), (5, .int x5)] [] st) (x2 : Int32) (x3 : Int32) (x5 : Int32) (y0 : Int32) (st : fb_S) (hF : b_X_copyName_name_44 k6 x2 x3 x5 y0 st = some o) : fb_G p l e (headSpec kw_X_copyName rm_X_copyName_name).room s m args below meth c (dC, dI) vcl (tX dA) (wX dA a) A none o.2 44 6 [(0, .ref (a 4)), (1, .ref (a 8)), (2, .int x2), (3, .int x3), (5, .int x5)] [.int y0] st := by
  intro H locs hP hD hS ls hl
  obtain ⟨hx, hb, hr, hml, hown, hts, hK, hA, hlocks, hZ⟩ := id CX
  unfold b_X_copyName_name_44 at hF
  refine lv_istore (lv' := [(4, .int y0), (0, .ref (a 4)), (1, .ref (a 8)), (2, .int x2), (3, .int x3), (5, .int x5)]) hx hb kd_X_copyName_44 hl (by decide) rfl (fun ls hl => ?_)
  refine lv_aload_n hx hb kd_X_copyName_46 rfl (lv_at hl 2 rfl) ?_
  refine lv_iload hx hb kd_X_copyName_47 (lv_at hl 5 rfl) ?_
  refine lv_iload hx hb kd_X_copyName_49 (lv_at hl 0 rfl) ?_
  refine lv_if_eq (tgt := 66) hx hb kd_X_copyName_51 (by decide) (fun c1 => ?_) (fun c1 => ?_)
  · rw [if_pos c1] at hF
    refine lv_iconst (v := 0) hx hb kd_X_copyName_66 (by decide) ?_
    exact w_X_copyName_name_67 CX o k6 hk6 x2 x3 y0 x5 (0 : Int32) x5 st hF H locs hP hD hS ls (lv_sub hl [1, 2, 3, 4, 0, 5] rfl)
  · rw [if_neg c1] at hF
    refine lv_aload_n hx hb kd_X_copyName_54 rfl (lv_at hl 1 rfl) ?_
    refine lv_iload_n hx hb kd_X_copyName_55 rfl (lv_at hl 3 rfl) ?_
    refine lv_iload hx hb kd_X_copyName_56 (lv_at hl 5 rfl) ?_
    refine lv_iadd hx hb kd_X_copyName_58 ?_
    obtain ⟨r2, e_r2, hF⟩ := fb_ob hF
    refine fb_callV (As := [.int (x2 + x5)]) (rest := [.int x5, .ref (a 8)]) ⟨hx, hb, hml, hown, hts⟩ zX_mv hZ hK hP hD hS hA (c_X_byteAt l dC dI dA a z (x2 + x5) st r2 e_r2) (cwV 1 hts (gd_V q_249 ko_X_byteAt) rfl rfl rfl kh_X_byteAt ⟨Nat.le_of_ble_eq_true rfl, Nat.le_of_ble_eq_true rfl⟩) 3 4 rfl rfl rfl rfl hl.1 rfl (Nat.le_of_ble_eq_true rfl) kd_X_copyName_59 ⟨Nat.zero_le _, Nat.zero_le _⟩ (fun H locs hP hD hS => ?_)
    refine W.eq (g2 := F0 m 62 ls [.int r2.1, .int x5, .ref (a 8)]) rfl ?_
    refine lv_i2b (v := fb_b r2.1) hx hb kd_X_copyName_62 rfl ?_
    refine lv_goto (tgt := 67) hx hb kd_X_copyName_63 (by decide) ?_
    exact w_X_copyName_name_67 CX o k6 hk6 x2 x3 y0 x5 (fb_b r2.1) x5 r2.2 hF H locs hP hD hS ls (lv_sub hl [1, 2, 3, 4, 0, 5] rfl)
def b_X_copyName_name_43 (k6 : Int32 → Int32 → Int32 → Int32 → fb_S → Option (Int32 × fb_S)) (x2 : Int32) (x3 : Int32) (x5 : Int32) (st : fb_S) : Option (Int32 × fb_S) := b_X_copyName_name_44 k6 x2 x3 x5 (0 : Int32) st
set_option maxHeartbeats 4000000 in
set_option maxRecDepth 100000 in
theorem w_X_copyName_name_43 {p : Program} {l : Launch} {e : Env} {s : State} {m : MethodId} {args : Array Value} {below : List Frame} {meth : Method} {c : Code} {A : Nat → Prop} {dC : Nat → ClassId} {dI : Nat → Nat → Nat} {dA : Nat → ClassId} {a : Nat → Nat} {z : Nat → Nat} (CX : fb_C p s m args meth c kc_X_copyName none 6 "FileTree$Text" (dC, dI) vcl (tX dA) A (zX z)) (o : Int32 × fb_S) (k6 : Int32 → Int32 → Int32 → Int32 → fb_S → Option (Int32 × fb_S)) (hk6 : ∀ (x2 : Int32) (x3 : Int32) (x4 : Int32) (x5 : Int32) (st : fb_S), k6 x2 x3 x4 x5 st = some o → fb_G p l e (headSpec kw_X_copyName rm_X_copyName_name).room s m args below meth c (dC, dI) vcl (tX dA) (wX dA a) A none o.2 6 6 [(0, .ref (a 4)), (1, .ref (a 8)), (2, .int x2), (3, .int x3), (4, .int x4), (5, .int x5)] [] st) (x2 : Int32) (x3 : Int32) (x5 : Int32) (st : fb_S) (hF : b_X_copyName_name_43 k6 x2 x3 x5 st = some o) : fb_G p l e (headSpec kw_X_copyName rm_X_copyName_name).room s m args below meth c (dC, dI) vcl (tX dA) (wX dA a) A none o.2 43 6 [(0, .ref (a 4)), (1, .ref (a 8)), (2, .int x2), (3, .int x3), (5, .int x5)] [] st := by
  intro H locs hP hD hS ls hl
  obtain ⟨hx, hb, hr, hml, hown, hts, hK, hA, hlocks, hZ⟩ := id CX
  unfold b_X_copyName_name_43 at hF
  refine lv_iconst (v := 0) hx hb kd_X_copyName_43 (by decide) ?_
  exact w_X_copyName_name_44 CX o k6 hk6 x2 x3 x5 (0 : Int32) st hF H locs hP hD hS ls (lv_sub hl [0, 1, 2, 3, 4] rfl)
def b_X_copyName_name_6 (k6 : Int32 → Int32 → Int32 → Int32 → fb_S → Option (Int32 × fb_S)) (x2 : Int32) (x3 : Int32) (x4 : Int32) (x5 : Int32) (st : fb_S) : Option (Int32 × fb_S) := (if (14 : Int32) ≤ x5 then some (0, st) else (if x4 = (0 : Int32) then b_X_copyName_name_43 k6 x2 x3 x5 st else (if x3 ≤ (x2 + x5) then b_X_copyName_name_43 k6 x2 x3 x5 st else (f_X_byteAt (x2 + x5) st).bind fun r4 => (if r4.1 = (47 : Int32) then b_X_copyName_name_43 k6 x2 x3 x5 r4.2 else b_X_copyName_name_44 k6 x2 x3 x5 (1 : Int32) r4.2))))
set_option maxHeartbeats 4000000 in
set_option maxRecDepth 100000 in
theorem w_X_copyName_name_6 {p : Program} {l : Launch} {e : Env} {s : State} {m : MethodId} {args : Array Value} {below : List Frame} {meth : Method} {c : Code} {A : Nat → Prop} {dC : Nat → ClassId} {dI : Nat → Nat → Nat} {dA : Nat → ClassId} {a : Nat → Nat} {z : Nat → Nat} (CX : fb_C p s m args meth c kc_X_copyName none 6 "FileTree$Text" (dC, dI) vcl (tX dA) A (zX z)) (o : Int32 × fb_S) (k6 : Int32 → Int32 → Int32 → Int32 → fb_S → Option (Int32 × fb_S)) (hk6 : ∀ (x2 : Int32) (x3 : Int32) (x4 : Int32) (x5 : Int32) (st : fb_S), k6 x2 x3 x4 x5 st = some o → fb_G p l e (headSpec kw_X_copyName rm_X_copyName_name).room s m args below meth c (dC, dI) vcl (tX dA) (wX dA a) A none o.2 6 6 [(0, .ref (a 4)), (1, .ref (a 8)), (2, .int x2), (3, .int x3), (4, .int x4), (5, .int x5)] [] st) (x2 : Int32) (x3 : Int32) (x4 : Int32) (x5 : Int32) (st : fb_S) (hF : b_X_copyName_name_6 k6 x2 x3 x4 x5 st = some o) : fb_G p l e (headSpec kw_X_copyName rm_X_copyName_name).room s m args below meth c (dC, dI) vcl (tX dA) (wX dA a) A none o.2 6 6 [(0, .ref (a 4)), (1, .ref (a 8)), (2, .int x2), (3, .int x3), (4, .int x4), (5, .int x5)] [] st := by
  intro H locs hP hD hS ls hl
  obtain ⟨hx, hb, hr, hml, hown, hts, hK, hA, hlocks, hZ⟩ := id CX
  unfold b_X_copyName_name_6 at hF
  refine lv_iload hx hb kd_X_copyName_6 (lv_at hl 5 rfl) ?_
  refine lv_aload_n hx hb kd_X_copyName_8 rfl (lv_at hl 1 rfl) ?_
  refine va_alen (v := 14) hx hb hK hP 8 1 rfl rfl rfl kd_X_copyName_9 ?_
  refine lv_icmp_ge (tgt := 74) hx hb kd_X_copyName_10 (by decide) (fun c1 => ?_) (fun c1 => ?_)
  · rw [if_pos c1] at hF
    exact fb_rv (o := o) hx hb hr hlocks hK hP hD hS hF kd_X_copyName_74
  · rw [if_neg c1] at hF
    refine lv_iload hx hb kd_X_copyName_13 (lv_at hl 4 rfl) ?_
    refine lv_if_eq (tgt := 43) hx hb kd_X_copyName_15 (by decide) (fun c2 => ?_) (fun c2 => ?_)
    · rw [if_pos c2] at hF
      exact w_X_copyName_name_43 CX o k6 hk6 x2 x3 x5 st hF H locs hP hD hS ls (lv_sub hl [0, 1, 2, 3, 5] rfl)
    · rw [if_neg c2] at hF
      refine lv_iload_n hx hb kd_X_copyName_18 rfl (lv_at hl 2 rfl) ?_
      refine lv_iload hx hb kd_X_copyName_19 (lv_at hl 5 rfl) ?_
      refine lv_iadd hx hb kd_X_copyName_21 ?_
      refine lv_iload_n hx hb kd_X_copyName_22 rfl (lv_at hl 3 rfl) ?_
      refine lv_icmp_ge (tgt := 43) hx hb kd_X_copyName_23 (by decide) (fun c3 => ?_) (fun c3 => ?_)
      · rw [if_pos c3] at hF
        exact w_X_copyName_name_43 CX o k6 hk6 x2 x3 x5 st hF H locs hP hD hS ls (lv_sub hl [0, 1, 2, 3, 5] rfl)
      · rw [if_neg c3] at hF
        refine lv_aload_n hx hb kd_X_copyName_26 rfl (lv_at hl 0 rfl) ?_
        refine lv_iload_n hx hb kd_X_copyName_27 rfl (lv_at hl 2 rfl) ?_
        refine lv_iload hx hb kd_X_copyName_28 (lv_at hl 5 rfl) ?_
        refine lv_iadd hx hb kd_X_copyName_30 ?_
        obtain ⟨r4, e_r4, hF⟩ := fb_ob hF
        refine fb_callV (As := [.int (x2 + x5)]) (rest := []) ⟨hx, hb, hml, hown, hts⟩ zX_mv hZ hK hP hD hS hA (c_X_byteAt l dC dI dA a z (x2 + x5) st r4 e_r4) (cwV 1 hts (gd_V q_249 ko_X_byteAt) rfl rfl rfl kh_X_byteAt ⟨Nat.le_of_ble_eq_true rfl, Nat.le_of_ble_eq_true rfl⟩) 3 4 rfl rfl rfl rfl hl.1 rfl (Nat.le_of_ble_eq_true rfl) kd_X_copyName_31 ⟨Nat.zero_le _, Nat.zero_le _⟩ (fun H locs hP hD hS => ?_)
        refine W.eq (g2 := F0 m 34 ls [.int r4.1]) rfl ?_
        refine lv_bipush (v := 47) hx hb kd_X_copyName_34 (by decide) ?_
        refine lv_icmp_eq (tgt := 43) hx hb kd_X_copyName_36 (by decide) (fun c5 => ?_) (fun c5 => ?_)
        · rw [if_pos c5] at hF
          exact w_X_copyName_name_43 CX o k6 hk6 x2 x3 x5 r4.2 hF H locs hP hD hS ls (lv_sub hl [0, 1, 2, 3, 5] rfl)
        · rw [if_neg c5] at hF
          refine lv_iconst (v := 1) hx hb kd_X_copyName_39 (by decide) ?_
          refine lv_goto (tgt := 44) hx hb kd_X_copyName_40 (by decide) ?_
          exact w_X_copyName_name_44 CX o k6 hk6 x2 x3 x5 (1 : Int32) r4.2 hF H locs hP hD hS ls (lv_sub hl [0, 1, 2, 3, 5] rfl)
def l_X_copyName_name_6 : Nat → Int32 → Int32 → Int32 → Int32 → fb_S → Option (Int32 × fb_S)
  | 0 => fun _ _ _ _ _ => none
  | n + 1 => b_X_copyName_name_6 (l_X_copyName_name_6 n)
theorem v_X_copyName_name_6 {p : Program} {l : Launch} {e : Env} {s : State} {m : MethodId} {args : Array Value} {below : List Frame} {meth : Method} {c : Code} {A : Nat → Prop} {dC : Nat → ClassId} {dI : Nat → Nat → Nat} {dA : Nat → ClassId} {a : Nat → Nat} {z : Nat → Nat} (CX : fb_C p s m args meth c kc_X_copyName none 6 "FileTree$Text" (dC, dI) vcl (tX dA) A (zX z)) (o : Int32 × fb_S) (n : Nat) : ∀ (x2 : Int32) (x3 : Int32) (x4 : Int32) (x5 : Int32) (st : fb_S), l_X_copyName_name_6 n x2 x3 x4 x5 st = some o → fb_G p l e (headSpec kw_X_copyName rm_X_copyName_name).room s m args below meth c (dC, dI) vcl (tX dA) (wX dA a) A none o.2 6 6 [(0, .ref (a 4)), (1, .ref (a 8)), (2, .int x2), (3, .int x3), (4, .int x4), (5, .int x5)] [] st := by
  induction n with
  | zero => intro x2 x3 x4 x5 st hF; cases hF
  | succ n ih => intro x2 x3 x4 x5 st hF; exact w_X_copyName_name_6 CX o (l_X_copyName_name_6 n) ih x2 x3 x4 x5 st hF
def f_X_copyName_name (x2 : Int32) (x3 : Int32) (st : fb_S) : Option (Int32 × fb_S) := l_X_copyName_name_6 fb_n x2 x3 (1 : Int32) (0 : Int32) st
set_option maxHeartbeats 4000000 in
set_option maxRecDepth 100000 in
theorem w_X_copyName_name_0 {p : Program} {l : Launch} {e : Env} {s : State} {m : MethodId} {args : Array Value} {below : List Frame} {meth : Method} {c : Code} {A : Nat → Prop} {dC : Nat → ClassId} {dI : Nat → Nat → Nat} {dA : Nat → ClassId} {a : Nat → Nat} {z : Nat → Nat} (CX : fb_C p s m args meth c kc_X_copyName none 6 "FileTree$Text" (dC, dI) vcl (tX dA) A (zX z)) (o : Int32 × fb_S) (x2 : Int32) (x3 : Int32) (st : fb_S) (hF : f_X_copyName_name x2 x3 st = some o) : fb_G p l e (headSpec kw_X_copyName rm_X_copyName_name).room s m args below meth c (dC, dI) vcl (tX dA) (wX dA a) A none o.2 0 6 [(0, .ref (a 4)), (1, .ref (a 8)), (2, .int x2), (3, .int x3)] [] st := by
  intro H locs hP hD hS ls hl
  obtain ⟨hx, hb, hr, hml, hown, hts, hK, hA, hlocks, hZ⟩ := id CX
  unfold f_X_copyName_name at hF
  refine lv_iconst (v := 1) hx hb kd_X_copyName_0 (by decide) ?_
  refine lv_istore (lv' := [(4, .int (1 : Int32)), (0, .ref (a 4)), (1, .ref (a 8)), (2, .int x2), (3, .int x3)]) hx hb kd_X_copyName_1 hl (by decide) rfl (fun ls hl => ?_)
  refine lv_iconst (v := 0) hx hb kd_X_copyName_3 (by decide) ?_
  refine lv_istore (lv' := [(5, .int (0 : Int32)), (4, .int (1 : Int32)), (0, .ref (a 4)), (1, .ref (a 8)), (2, .int x2), (3, .int x3)]) hx hb kd_X_copyName_4 hl (by decide) rfl (fun ls hl => ?_)
  exact v_X_copyName_name_6 CX o fb_n x2 x3 (1 : Int32) (0 : Int32) st hF H locs hP hD hS ls (lv_sub hl [2, 3, 4, 5, 1, 0] rfl)
theorem c_X_copyName_name (l : Launch) (dC : Nat → ClassId) (dI : Nat → Nat → Nat) (dA : Nat → ClassId) (a : Nat → Nat) (z : Nat → Nat) (x2 : Int32) (x3 : Int32) (st : fb_S) (o : Int32 × fb_S) (h : f_X_copyName_name x2 x3 st = some o) : fb_M l ky_X_copyName kw_X_copyName rm_X_copyName_name (dC, dI) vcl (tX dA) (wX dA a) (zX z) [.ref (a 4), .ref (a 8), .int x2, .int x3] none st o.2 := fb_enter (by decide) rfl (Nat.le_of_ble_eq_true rfl) (fun p e s m below meth c A CX hP hD hS ls hl => w_X_copyName_name_0 CX o x2 x3 st h s.heap [] hP hD hS ls hl)
abbrev rm_D_nameByte_name : Room := { frames := 0, cells := 0, slots := 0, locals := 0 }
def f_D_nameByte_name (x2 : Int32) (st : fb_S) : Option (Int32 × fb_S) := (if x2 < (0 : Int32) then some ((0 : Int32), st) else (if (14 : Int32) ≤ x2 then some ((0 : Int32), st) else (fb_ld (st 3) 14 x2).bind fun v3 => some (v3 &&& (255 : Int32), st)))
set_option maxHeartbeats 4000000 in
set_option maxRecDepth 100000 in
theorem w_D_nameByte_name_0 {p : Program} {l : Launch} {e : Env} {s : State} {m : MethodId} {args : Array Value} {below : List Frame} {meth : Method} {c : Code} {A : Nat → Prop} {dC : Nat → ClassId} {dI : Nat → Nat → Nat} {dA : Nat → ClassId} {a : Nat → Nat} {z : Nat → Nat} (CX : fb_C p s m args meth c kc_D_nameByte (some .int) 3 "FileTree$Directories" (dC, dI) vcl (tX dA) A (zX z)) (o : Int32 × fb_S) (x2 : Int32) (st : fb_S) (hF : f_D_nameByte_name x2 st = some o) : fb_G p l e (headSpec kw_D_nameByte rm_D_nameByte_name).room s m args below meth c (dC, dI) vcl (tX dA) (wX dA a) A (some (.int o.1)) o.2 0 3 [(0, .ref (a 1)), (1, .ref (a 8)), (2, .int x2)] [] st := by
  intro H locs hP hD hS ls hl
  obtain ⟨hx, hb, hr, hml, hown, hts, hK, hA, hlocks, hZ⟩ := id CX
  unfold f_D_nameByte_name at hF
  refine lv_iload_n hx hb kd_D_nameByte_0 rfl (lv_at hl 2 rfl) ?_
  refine lv_if_lt (tgt := 20) hx hb kd_D_nameByte_1 (by decide) (fun c1 => ?_) (fun c1 => ?_)
  · rw [if_pos c1] at hF
    refine lv_iconst (v := 0) hx hb kd_D_nameByte_20 (by decide) ?_
    exact fb_ri (o := o) hx hb hr hlocks hK hP hD hS hF kd_D_nameByte_21
  · rw [if_neg c1] at hF
    refine lv_iload_n hx hb kd_D_nameByte_4 rfl (lv_at hl 2 rfl) ?_
    refine lv_aload_n hx hb kd_D_nameByte_5 rfl (lv_at hl 1 rfl) ?_
    refine va_alen (v := 14) hx hb hK hP 8 1 rfl rfl rfl kd_D_nameByte_6 ?_
    refine lv_icmp_ge (tgt := 20) hx hb kd_D_nameByte_7 (by decide) (fun c2 => ?_) (fun c2 => ?_)
    · rw [if_pos c2] at hF
      refine lv_iconst (v := 0) hx hb kd_D_nameByte_20 (by decide) ?_
      exact fb_ri (o := o) hx hb hr hlocks hK hP hD hS hF kd_D_nameByte_21
    · rw [if_neg c2] at hF
      refine lv_aload_n hx hb kd_D_nameByte_10 rfl (lv_at hl 1 rfl) ?_
      refine lv_iload_n hx hb kd_D_nameByte_11 rfl (lv_at hl 2 rfl) ?_
      obtain ⟨v3, e_v3, hF⟩ := fb_ob hF
      refine fb_bald hx hb hK hP 8 1 rfl rfl e_v3 kd_D_nameByte_12 ?_
      refine lv_sipush (v := 255) hx hb kd_D_nameByte_13 (by decide) ?_
      refine lv_iand hx hb kd_D_nameByte_16 ?_
      refine lv_goto (tgt := 21) hx hb kd_D_nameByte_17 (by decide) ?_
      exact fb_ri (o := o) hx hb hr hlocks hK hP hD hS hF kd_D_nameByte_21
theorem c_D_nameByte_name (l : Launch) (dC : Nat → ClassId) (dI : Nat → Nat → Nat) (dA : Nat → ClassId) (a : Nat → Nat) (z : Nat → Nat) (x2 : Int32) (st : fb_S) (o : Int32 × fb_S) (h : f_D_nameByte_name x2 st = some o) : fb_M l ky_D_nameByte kw_D_nameByte rm_D_nameByte_name (dC, dI) vcl (tX dA) (wX dA a) (zX z) [.ref (a 1), .ref (a 8), .int x2] (some (.int o.1)) st o.2 := fb_enter (by decide) rfl (Nat.le_of_ble_eq_true rfl) (fun p e s m below meth c A CX hP hD hS ls hl => w_D_nameByte_name_0 CX o x2 st h s.heap [] hP hD hS ls hl)
abbrev rm_D_hasName_name : Room := { frames := 1, cells := 0, slots := 0, locals := 24 }
def b_D_hasName_name_2 (k2 : Int32 → Int32 → fb_S → Option (Int32 × fb_S)) (x1 : Int32) (x3 : Int32) (st : fb_S) : Option (Int32 × fb_S) := (if (14 : Int32) ≤ x3 then fb_rz (1 : Int32) st else (f_K_partAt ((x1 + (2 : Int32)) + x3) (255 : Int32) st).bind fun r2 => (f_D_nameByte_name x3 r2.2).bind fun r3 => (if r2.1 = r3.1 then k2 x1 (x3 + (1 : Int32)) r3.2 else fb_rz (0 : Int32) r3.2))
set_option maxHeartbeats 4000000 in
set_option maxRecDepth 100000 in
theorem w_D_hasName_name_2 {p : Program} {l : Launch} {e : Env} {s : State} {m : MethodId} {args : Array Value} {below : List Frame} {meth : Method} {c : Code} {A : Nat → Prop} {dC : Nat → ClassId} {dI : Nat → Nat → Nat} {dA : Nat → ClassId} {a : Nat → Nat} {z : Nat → Nat} (CX : fb_C p s m args meth c kc_D_hasName (some .boolean) 4 "FileTree$Directories" (dC, dI) vcl (tX dA) A (zX z)) (o : Int32 × fb_S) (k2 : Int32 → Int32 → fb_S → Option (Int32 × fb_S)) (hk2 : ∀ (x1 : Int32) (x3 : Int32) (st : fb_S), k2 x1 x3 st = some o → fb_G p l e (headSpec kw_D_hasName rm_D_hasName_name).room s m args below meth c (dC, dI) vcl (tX dA) (wX dA a) A (some (.int o.1)) o.2 2 4 [(0, .ref (a 1)), (1, .int x1), (2, .ref (a 8)), (3, .int x3)] [] st) (x1 : Int32) (x3 : Int32) (st : fb_S) (hF : b_D_hasName_name_2 k2 x1 x3 st = some o) : fb_G p l e (headSpec kw_D_hasName rm_D_hasName_name).room s m args below meth c (dC, dI) vcl (tX dA) (wX dA a) A (some (.int o.1)) o.2 2 4 [(0, .ref (a 1)), (1, .int x1), (2, .ref (a 8)), (3, .int x3)] [] st := by
  intro H locs hP hD hS ls hl
  obtain ⟨hx, hb, hr, hml, hown, hts, hK, hA, hlocks, hZ⟩ := id CX
  unfold b_D_hasName_name_2 at hF
  refine lv_iload_n hx hb kd_D_hasName_2 rfl (lv_at hl 3 rfl) ?_
  refine lv_bipush (v := 14) hx hb kd_D_hasName_3 (by decide) ?_
  refine lv_icmp_ge (tgt := 40) hx hb kd_D_hasName_5 (by decide) (fun c1 => ?_) (fun c1 => ?_)
  · rw [if_pos c1] at hF
    refine lv_iconst (v := 1) hx hb kd_D_hasName_40 (by decide) ?_
    exact fb_rb (o := o) hx hb hr hlocks hK hP hD hS hF kd_D_hasName_41
  · rw [if_neg c1] at hF
    refine lv_aload_n hx hb kd_D_hasName_8 rfl (lv_at hl 0 rfl) ?_
    refine va_get (D := (dC, dI)) (ci := 0) (v := .ref (a 3)) (C := "FileTree$Directories") (T := ft_D) (N := 2) hx hb hts fi_D hown hK hP 1 rfl rfl 1 (by decide) (hts _ q_52) (fun _ h9 => h9) rfl kd_D_hasName_9 ?_
    refine lv_iload_n hx hb kd_D_hasName_12 rfl (lv_at hl 1 rfl) ?_
    refine lv_iconst (v := 2) hx hb kd_D_hasName_13 (by decide) ?_
    refine lv_iadd hx hb kd_D_hasName_14 ?_
    refine lv_iload_n hx hb kd_D_hasName_15 rfl (lv_at hl 3 rfl) ?_
    refine lv_iadd hx hb kd_D_hasName_16 ?_
    refine lv_sipush (v := 255) hx hb kd_D_hasName_17 (by decide) ?_
    obtain ⟨r2, e_r2, hF⟩ := fb_ob hF
    refine fb_callV (As := [.int ((x1 + (2 : Int32)) + x3), .int (255 : Int32)]) (rest := []) ⟨hx, hb, hml, hown, hts⟩ zX_mv hZ hK hP hD hS hA (c_K_partAt l dC dI dA a z ((x1 + (2 : Int32)) + x3) (255 : Int32) st r2 e_r2) (cwV 2 hts (gd_V q_159 ko_K_partAt) rfl rfl rfl kh_K_partAt ⟨Nat.le_of_ble_eq_true rfl, Nat.le_of_ble_eq_true rfl⟩) 1 3 rfl rfl rfl rfl hl.1 rfl (Nat.le_of_ble_eq_true rfl) kd_D_hasName_20 ⟨Nat.zero_le _, Nat.zero_le _⟩ (fun H locs hP hD hS => ?_)
    refine W.eq (g2 := F0 m 23 ls [.int r2.1]) rfl ?_
    refine lv_aload_n hx hb kd_D_hasName_23 rfl (lv_at hl 0 rfl) ?_
    refine lv_aload_n hx hb kd_D_hasName_24 rfl (lv_at hl 2 rfl) ?_
    refine lv_iload_n hx hb kd_D_hasName_25 rfl (lv_at hl 3 rfl) ?_
    obtain ⟨r3, e_r3, hF⟩ := fb_ob hF
    refine fb_callV (As := [.ref (a 8), .int x3]) (rest := [.int r2.1]) ⟨hx, hb, hml, hown, hts⟩ zX_mv hZ hK hP hD hS hA (c_D_nameByte_name l dC dI dA a z x3 r2.2 r3 e_r3) (cwV 2 hts (gd_V q_193 ko_D_nameByte) rfl rfl rfl kh_D_nameByte ⟨Nat.le_of_ble_eq_true rfl, Nat.le_of_ble_eq_true rfl⟩) 0 1 rfl rfl rfl rfl hl.1 rfl (Nat.le_of_ble_eq_true rfl) kd_D_hasName_26 ⟨Nat.zero_le _, Nat.zero_le _⟩ (fun H locs hP hD hS => ?_)
    refine W.eq (g2 := F0 m 29 ls [.int r3.1, .int r2.1]) rfl ?_
    refine lv_icmp_eq (tgt := 34) hx hb kd_D_hasName_29 (by decide) (fun c4 => ?_) (fun c4 => ?_)
    · rw [if_pos c4] at hF
      refine lv_iinc (v := x3 + (1 : Int32)) (lv' := [(3, .int (x3 + (1 : Int32))), (0, .ref (a 1)), (1, .int x1), (2, .ref (a 8))]) hx hb kd_D_hasName_34 hl (k := 3) rfl rfl (by decide) rfl (fun ls hl => ?_)
      refine lv_goto (tgt := 2) hx hb kd_D_hasName_37 (by decide) ?_
      exact hk2 x1 (x3 + (1 : Int32)) r3.2 hF H locs hP hD hS ls (lv_sub hl [1, 2, 3, 0] rfl)
    · rw [if_neg c4] at hF
      refine lv_iconst (v := 0) hx hb kd_D_hasName_32 (by decide) ?_
      exact fb_rb (o := o) hx hb hr hlocks hK hP hD hS hF kd_D_hasName_33
def l_D_hasName_name_2 : Nat → Int32 → Int32 → fb_S → Option (Int32 × fb_S)
  | 0 => fun _ _ _ => none
  | n + 1 => b_D_hasName_name_2 (l_D_hasName_name_2 n)
theorem v_D_hasName_name_2 {p : Program} {l : Launch} {e : Env} {s : State} {m : MethodId} {args : Array Value} {below : List Frame} {meth : Method} {c : Code} {A : Nat → Prop} {dC : Nat → ClassId} {dI : Nat → Nat → Nat} {dA : Nat → ClassId} {a : Nat → Nat} {z : Nat → Nat} (CX : fb_C p s m args meth c kc_D_hasName (some .boolean) 4 "FileTree$Directories" (dC, dI) vcl (tX dA) A (zX z)) (o : Int32 × fb_S) (n : Nat) : ∀ (x1 : Int32) (x3 : Int32) (st : fb_S), l_D_hasName_name_2 n x1 x3 st = some o → fb_G p l e (headSpec kw_D_hasName rm_D_hasName_name).room s m args below meth c (dC, dI) vcl (tX dA) (wX dA a) A (some (.int o.1)) o.2 2 4 [(0, .ref (a 1)), (1, .int x1), (2, .ref (a 8)), (3, .int x3)] [] st := by
  induction n with
  | zero => intro x1 x3 st hF; cases hF
  | succ n ih => intro x1 x3 st hF; exact w_D_hasName_name_2 CX o (l_D_hasName_name_2 n) ih x1 x3 st hF
def f_D_hasName_name (x1 : Int32) (st : fb_S) : Option (Int32 × fb_S) := l_D_hasName_name_2 fb_n x1 (0 : Int32) st
set_option maxHeartbeats 4000000 in
set_option maxRecDepth 100000 in
theorem w_D_hasName_name_0 {p : Program} {l : Launch} {e : Env} {s : State} {m : MethodId} {args : Array Value} {below : List Frame} {meth : Method} {c : Code} {A : Nat → Prop} {dC : Nat → ClassId} {dI : Nat → Nat → Nat} {dA : Nat → ClassId} {a : Nat → Nat} {z : Nat → Nat} (CX : fb_C p s m args meth c kc_D_hasName (some .boolean) 4 "FileTree$Directories" (dC, dI) vcl (tX dA) A (zX z)) (o : Int32 × fb_S) (x1 : Int32) (st : fb_S) (hF : f_D_hasName_name x1 st = some o) : fb_G p l e (headSpec kw_D_hasName rm_D_hasName_name).room s m args below meth c (dC, dI) vcl (tX dA) (wX dA a) A (some (.int o.1)) o.2 0 4 [(0, .ref (a 1)), (1, .int x1), (2, .ref (a 8))] [] st := by
  intro H locs hP hD hS ls hl
  obtain ⟨hx, hb, hr, hml, hown, hts, hK, hA, hlocks, hZ⟩ := id CX
  unfold f_D_hasName_name at hF
  refine lv_iconst (v := 0) hx hb kd_D_hasName_0 (by decide) ?_
  refine lv_istore_n (lv' := [(3, .int (0 : Int32)), (0, .ref (a 1)), (1, .int x1), (2, .ref (a 8))]) hx hb kd_D_hasName_1 rfl hl (by decide) rfl (fun ls hl => ?_)
  exact v_D_hasName_name_2 CX o fb_n x1 (0 : Int32) st hF H locs hP hD hS ls (lv_sub hl [1, 2, 3, 0] rfl)
theorem c_D_hasName_name (l : Launch) (dC : Nat → ClassId) (dI : Nat → Nat → Nat) (dA : Nat → ClassId) (a : Nat → Nat) (z : Nat → Nat) (x1 : Int32) (st : fb_S) (o : Int32 × fb_S) (h : f_D_hasName_name x1 st = some o) : fb_M l ky_D_hasName kw_D_hasName rm_D_hasName_name (dC, dI) vcl (tX dA) (wX dA a) (zX z) [.ref (a 1), .int x1, .ref (a 8)] (some (.int o.1)) st o.2 := fb_enter (by decide) rfl (Nat.le_of_ble_eq_true rfl) (fun p e s m below meth c A CX hP hD hS ls hl => w_D_hasName_name_0 CX o x1 st h s.heap [] hP hD hS ls hl)
abbrev rm_D_entryNamed_name : Room := { frames := 3, cells := 0, slots := 0, locals := 68 }
def b_D_entryNamed_name_54 (k9 : Int32 → Int32 → Int32 → fb_S → Option (Int32 × fb_S)) (x1 : Int32) (x3 : Int32) (x4 : Int32) (st : fb_S) : Option (Int32 × fb_S) := k9 x1 x3 (x4 + (16 : Int32)) st
set_option maxHeartbeats 4000000 in
set_option maxRecDepth 100000 in
theorem w_D_entryNamed_name_54 {p : Program} {l : Launch} {e : Env} {s : State} {m : MethodId} {args : Array Value} {below : List Frame} {meth : Method} {c : Code} {A : Nat → Prop} {dC : Nat → ClassId} {dI : Nat → Nat → Nat} {dA : Nat → ClassId} {a : Nat → Nat} {z : Nat → Nat} (CX : fb_C p s m args meth c kc_D_entryNamed (some .int) 6 "FileTree$Directories" (dC, dI) vcl (tX dA) A (zX z)) (o : Int32 × fb_S) (k9 : Int32 → Int32 → Int32 → fb_S → Option (Int32 × fb_S)) (hk9 : ∀ (x1 : Int32) (x3 : Int32) (x4 : Int32) (st : fb_S), k9 x1 x3 x4 st = some o → fb_G p l e (headSpec kw_D_entryNamed rm_D_entryNamed_name).room s m args below meth c (dC, dI) vcl (tX dA) (wX dA a) A (some (.int o.1)) o.2 9 6 [(0, .ref (a 1)), (1, .int x1), (2, .ref (a 8)), (3, .int x3), (4, .int x4)] [] st) (x1 : Int32) (x3 : Int32) (x4 : Int32) (st : fb_S) (hF : b_D_entryNamed_name_54 k9 x1 x3 x4 st = some o) : fb_G p l e (headSpec kw_D_entryNamed rm_D_entryNamed_name).room s m args below meth c (dC, dI) vcl (tX dA) (wX dA a) A (some (.int o.1)) o.2 54 6 [(0, .ref (a 1)), (1, .int x1), (2, .ref (a 8)), (3, .int x3), (4, .int x4)] [] st := by
  intro H locs hP hD hS ls hl
  obtain ⟨hx, hb, hr, hml, hown, hts, hK, hA, hlocks, hZ⟩ := id CX
  unfold b_D_entryNamed_name_54 at hF
  refine lv_iinc (v := x4 + (16 : Int32)) (lv' := [(4, .int (x4 + (16 : Int32))), (0, .ref (a 1)), (1, .int x1), (2, .ref (a 8)), (3, .int x3)]) hx hb kd_D_entryNamed_54 hl (k := 4) rfl rfl (by decide) rfl (fun ls hl => ?_)
  refine lv_goto (tgt := 9) hx hb kd_D_entryNamed_57 (by decide) ?_
  exact hk9 x1 x3 (x4 + (16 : Int32)) st hF H locs hP hD hS ls (lv_sub hl [1, 2, 3, 4, 0] rfl)
def b_D_entryNamed_name_9 (k9 : Int32 → Int32 → Int32 → fb_S → Option (Int32 × fb_S)) (x1 : Int32) (x3 : Int32) (x4 : Int32) (st : fb_S) : Option (Int32 × fb_S) := (if x3 ≤ x4 then some ((-1 : Int32), st) else (f_I_placeOfByte x1 x4 st).bind fun r2 => (f_K_partAt r2.1 (65535 : Int32) r2.2).bind fun r3 => (if r3.1 = (0 : Int32) then b_D_entryNamed_name_54 k9 x1 x3 x4 r3.2 else (f_D_hasName_name r2.1 r3.2).bind fun r5 => (if r5.1 = (0 : Int32) then b_D_entryNamed_name_54 k9 x1 x3 x4 r5.2 else some (r2.1, r5.2))))
set_option maxHeartbeats 4000000 in
set_option maxRecDepth 100000 in
theorem w_D_entryNamed_name_9 {p : Program} {l : Launch} {e : Env} {s : State} {m : MethodId} {args : Array Value} {below : List Frame} {meth : Method} {c : Code} {A : Nat → Prop} {dC : Nat → ClassId} {dI : Nat → Nat → Nat} {dA : Nat → ClassId} {a : Nat → Nat} {z : Nat → Nat} (CX : fb_C p s m args meth c kc_D_entryNamed (some .int) 6 "FileTree$Directories" (dC, dI) vcl (tX dA) A (zX z)) (o : Int32 × fb_S) (k9 : Int32 → Int32 → Int32 → fb_S → Option (Int32 × fb_S)) (hk9 : ∀ (x1 : Int32) (x3 : Int32) (x4 : Int32) (st : fb_S), k9 x1 x3 x4 st = some o → fb_G p l e (headSpec kw_D_entryNamed rm_D_entryNamed_name).room s m args below meth c (dC, dI) vcl (tX dA) (wX dA a) A (some (.int o.1)) o.2 9 6 [(0, .ref (a 1)), (1, .int x1), (2, .ref (a 8)), (3, .int x3), (4, .int x4)] [] st) (x1 : Int32) (x3 : Int32) (x4 : Int32) (st : fb_S) (hF : b_D_entryNamed_name_9 k9 x1 x3 x4 st = some o) : fb_G p l e (headSpec kw_D_entryNamed rm_D_entryNamed_name).room s m args below meth c (dC, dI) vcl (tX dA) (wX dA a) A (some (.int o.1)) o.2 9 6 [(0, .ref (a 1)), (1, .int x1), (2, .ref (a 8)), (3, .int x3), (4, .int x4)] [] st := by
  intro H locs hP hD hS ls hl
  obtain ⟨hx, hb, hr, hml, hown, hts, hK, hA, hlocks, hZ⟩ := id CX
  unfold b_D_entryNamed_name_9 at hF
  refine lv_iload hx hb kd_D_entryNamed_9 (lv_at hl 4 rfl) ?_
  refine lv_iload_n hx hb kd_D_entryNamed_11 rfl (lv_at hl 3 rfl) ?_
  refine lv_icmp_ge (tgt := 60) hx hb kd_D_entryNamed_12 (by decide) (fun c1 => ?_) (fun c1 => ?_)
  · rw [if_pos c1] at hF
    refine lv_iconst (v := (-1)) hx hb kd_D_entryNamed_60 (by decide) ?_
    exact fb_ri (o := o) hx hb hr hlocks hK hP hD hS hF kd_D_entryNamed_61
  · rw [if_neg c1] at hF
    refine lv_aload_n hx hb kd_D_entryNamed_15 rfl (lv_at hl 0 rfl) ?_
    refine va_get (D := (dC, dI)) (ci := 0) (v := .ref (a 2)) (C := "FileTree$Directories") (T := ft_D) (N := 2) hx hb hts fi_D hown hK hP 1 rfl rfl 0 (by decide) (hts _ q_50) (fun _ h9 => h9) rfl kd_D_entryNamed_16 ?_
    refine lv_iload_n hx hb kd_D_entryNamed_19 rfl (lv_at hl 1 rfl) ?_
    refine lv_iload hx hb kd_D_entryNamed_20 (lv_at hl 4 rfl) ?_
    obtain ⟨r2, e_r2, hF⟩ := fb_ob hF
    refine fb_callV (As := [.int x1, .int x4]) (rest := []) ⟨hx, hb, hml, hown, hts⟩ zX_mv hZ hK hP hD hS hA (c_I_placeOfByte l dC dI dA a z x1 x4 st r2 e_r2) (cwV 2 hts (gd_V q_150 ko_I_placeOfByte) rfl rfl rfl kh_I_placeOfByte ⟨Nat.le_of_ble_eq_true rfl, Nat.le_of_ble_eq_true rfl⟩) 2 2 rfl rfl rfl rfl hl.1 rfl (Nat.le_of_ble_eq_true rfl) kd_D_entryNamed_22 ⟨Nat.zero_le _, Nat.zero_le _⟩ (fun H locs hP hD hS => ?_)
    refine W.eq (g2 := F0 m 25 ls [.int r2.1]) rfl ?_
    refine lv_istore (lv' := [(5, .int r2.1), (0, .ref (a 1)), (1, .int x1), (2, .ref (a 8)), (3, .int x3), (4, .int x4)]) hx hb kd_D_entryNamed_25 hl (by decide) rfl (fun ls hl => ?_)
    refine lv_aload_n hx hb kd_D_entryNamed_27 rfl (lv_at hl 1 rfl) ?_
    refine va_get (D := (dC, dI)) (ci := 0) (v := .ref (a 3)) (C := "FileTree$Directories") (T := ft_D) (N := 2) hx hb hts fi_D hown hK hP 1 rfl rfl 1 (by decide) (hts _ q_52) (fun _ h9 => h9) rfl kd_D_entryNamed_28 ?_
    refine lv_iload hx hb kd_D_entryNamed_31 (lv_at hl 0 rfl) ?_
    refine lv_ldc (v := 65535) hx hb hown (hts _ q_158) kd_D_entryNamed_33 ?_
    obtain ⟨r3, e_r3, hF⟩ := fb_ob hF
    refine fb_callV (As := [.int r2.1, .int (65535 : Int32)]) (rest := []) ⟨hx, hb, hml, hown, hts⟩ zX_mv hZ hK hP hD hS hA (c_K_partAt l dC dI dA a z r2.1 (65535 : Int32) r2.2 r3 e_r3) (cwV 2 hts (gd_V q_159 ko_K_partAt) rfl rfl rfl kh_K_partAt ⟨Nat.le_of_ble_eq_true rfl, Nat.le_of_ble_eq_true rfl⟩) 1 3 rfl rfl rfl rfl hl.1 rfl (Nat.le_of_ble_eq_true rfl) kd_D_entryNamed_35 ⟨Nat.zero_le _, Nat.zero_le _⟩ (fun H locs hP hD hS => ?_)
    refine W.eq (g2 := F0 m 38 ls [.int r3.1]) rfl ?_
    refine lv_if_eq (tgt := 54) hx hb kd_D_entryNamed_38 (by decide) (fun c4 => ?_) (fun c4 => ?_)
    · rw [if_pos c4] at hF
      exact w_D_entryNamed_name_54 CX o k9 hk9 x1 x3 x4 r3.2 hF H locs hP hD hS ls (lv_sub hl [1, 2, 3, 4, 5] rfl)
    · rw [if_neg c4] at hF
      refine lv_aload_n hx hb kd_D_entryNamed_41 rfl (lv_at hl 1 rfl) ?_
      refine lv_iload hx hb kd_D_entryNamed_42 (lv_at hl 0 rfl) ?_
      refine lv_aload_n hx hb kd_D_entryNamed_44 rfl (lv_at hl 3 rfl) ?_
      obtain ⟨r5, e_r5, hF⟩ := fb_ob hF
      refine fb_callV (As := [.int r2.1, .ref (a 8)]) (rest := []) ⟨hx, hb, hml, hown, hts⟩ zX_mv hZ hK hP hD hS hA (c_D_hasName_name l dC dI dA a z r2.1 r3.2 r5 e_r5) (cwV 2 hts (gd_V q_266 ko_D_hasName) rfl rfl rfl kh_D_hasName ⟨Nat.le_of_ble_eq_true rfl, Nat.le_of_ble_eq_true rfl⟩) 0 1 rfl rfl rfl rfl hl.1 rfl (Nat.le_of_ble_eq_true rfl) kd_D_entryNamed_45 ⟨Nat.zero_le _, Nat.zero_le _⟩ (fun H locs hP hD hS => ?_)
      refine W.eq (g2 := F0 m 48 ls [.int r5.1]) rfl ?_
      refine lv_if_eq (tgt := 54) hx hb kd_D_entryNamed_48 (by decide) (fun c6 => ?_) (fun c6 => ?_)
      · rw [if_pos c6] at hF
        exact w_D_entryNamed_name_54 CX o k9 hk9 x1 x3 x4 r5.2 hF H locs hP hD hS ls (lv_sub hl [1, 2, 3, 4, 5] rfl)
      · rw [if_neg c6] at hF
        refine lv_iload hx hb kd_D_entryNamed_51 (lv_at hl 0 rfl) ?_
        exact fb_ri (o := o) hx hb hr hlocks hK hP hD hS hF kd_D_entryNamed_53
def l_D_entryNamed_name_9 : Nat → Int32 → Int32 → Int32 → fb_S → Option (Int32 × fb_S)
  | 0 => fun _ _ _ _ => none
  | n + 1 => b_D_entryNamed_name_9 (l_D_entryNamed_name_9 n)
theorem v_D_entryNamed_name_9 {p : Program} {l : Launch} {e : Env} {s : State} {m : MethodId} {args : Array Value} {below : List Frame} {meth : Method} {c : Code} {A : Nat → Prop} {dC : Nat → ClassId} {dI : Nat → Nat → Nat} {dA : Nat → ClassId} {a : Nat → Nat} {z : Nat → Nat} (CX : fb_C p s m args meth c kc_D_entryNamed (some .int) 6 "FileTree$Directories" (dC, dI) vcl (tX dA) A (zX z)) (o : Int32 × fb_S) (n : Nat) : ∀ (x1 : Int32) (x3 : Int32) (x4 : Int32) (st : fb_S), l_D_entryNamed_name_9 n x1 x3 x4 st = some o → fb_G p l e (headSpec kw_D_entryNamed rm_D_entryNamed_name).room s m args below meth c (dC, dI) vcl (tX dA) (wX dA a) A (some (.int o.1)) o.2 9 6 [(0, .ref (a 1)), (1, .int x1), (2, .ref (a 8)), (3, .int x3), (4, .int x4)] [] st := by
  induction n with
  | zero => intro x1 x3 x4 st hF; cases hF
  | succ n ih => intro x1 x3 x4 st hF; exact w_D_entryNamed_name_9 CX o (l_D_entryNamed_name_9 n) ih x1 x3 x4 st hF
def f_D_entryNamed_name (x1 : Int32) (st : fb_S) : Option (Int32 × fb_S) := (f_D_sizeOf x1 st).bind fun r1 => l_D_entryNamed_name_9 fb_n x1 r1.1 (0 : Int32) r1.2
set_option maxHeartbeats 4000000 in
set_option maxRecDepth 100000 in
theorem w_D_entryNamed_name_0 {p : Program} {l : Launch} {e : Env} {s : State} {m : MethodId} {args : Array Value} {below : List Frame} {meth : Method} {c : Code} {A : Nat → Prop} {dC : Nat → ClassId} {dI : Nat → Nat → Nat} {dA : Nat → ClassId} {a : Nat → Nat} {z : Nat → Nat} (CX : fb_C p s m args meth c kc_D_entryNamed (some .int) 6 "FileTree$Directories" (dC, dI) vcl (tX dA) A (zX z)) (o : Int32 × fb_S) (x1 : Int32) (st : fb_S) (hF : f_D_entryNamed_name x1 st = some o) : fb_G p l e (headSpec kw_D_entryNamed rm_D_entryNamed_name).room s m args below meth c (dC, dI) vcl (tX dA) (wX dA a) A (some (.int o.1)) o.2 0 6 [(0, .ref (a 1)), (1, .int x1), (2, .ref (a 8))] [] st := by
  intro H locs hP hD hS ls hl
  obtain ⟨hx, hb, hr, hml, hown, hts, hK, hA, hlocks, hZ⟩ := id CX
  unfold f_D_entryNamed_name at hF
  refine lv_aload_n hx hb kd_D_entryNamed_0 rfl (lv_at hl 0 rfl) ?_
  refine lv_iload_n hx hb kd_D_entryNamed_1 rfl (lv_at hl 1 rfl) ?_
  obtain ⟨r1, e_r1, hF⟩ := fb_ob hF
  refine fb_callV (As := [.int x1]) (rest := []) ⟨hx, hb, hml, hown, hts⟩ zX_mv hZ hK hP hD hS hA (c_D_sizeOf l dC dI dA a z x1 st r1 e_r1) (cwV 1 hts (gd_V q_133 ko_D_sizeOf) rfl rfl rfl kh_D_sizeOf ⟨Nat.le_of_ble_eq_true rfl, Nat.le_of_ble_eq_true rfl⟩) 0 1 rfl rfl rfl rfl hl.1 rfl (Nat.le_of_ble_eq_true rfl) kd_D_entryNamed_2 ⟨Nat.zero_le _, Nat.zero_le _⟩ (fun H locs hP hD hS => ?_)
  refine W.eq (g2 := F0 m 5 ls [.int r1.1]) rfl ?_
  refine lv_istore_n (lv' := [(3, .int r1.1), (0, .ref (a 1)), (1, .int x1), (2, .ref (a 8))]) hx hb kd_D_entryNamed_5 rfl hl (by decide) rfl (fun ls hl => ?_)
  refine lv_iconst (v := 0) hx hb kd_D_entryNamed_6 (by decide) ?_
  refine lv_istore (lv' := [(4, .int (0 : Int32)), (3, .int r1.1), (0, .ref (a 1)), (1, .int x1), (2, .ref (a 8))]) hx hb kd_D_entryNamed_7 hl (by decide) rfl (fun ls hl => ?_)
  exact v_D_entryNamed_name_9 CX o fb_n x1 r1.1 (0 : Int32) r1.2 hF H locs hP hD hS ls (lv_sub hl [2, 3, 4, 1, 0] rfl)
theorem c_D_entryNamed_name (l : Launch) (dC : Nat → ClassId) (dI : Nat → Nat → Nat) (dA : Nat → ClassId) (a : Nat → Nat) (z : Nat → Nat) (x1 : Int32) (st : fb_S) (o : Int32 × fb_S) (h : f_D_entryNamed_name x1 st = some o) : fb_M l ky_D_entryNamed kw_D_entryNamed rm_D_entryNamed_name (dC, dI) vcl (tX dA) (wX dA a) (zX z) [.ref (a 1), .int x1, .ref (a 8)] (some (.int o.1)) st o.2 := fb_enter (by decide) rfl (Nat.le_of_ble_eq_true rfl) (fun p e s m below meth c A CX hP hD hS ls hl => w_D_entryNamed_name_0 CX o x1 st h s.heap [] hP hD hS ls hl)
abbrev rm_T_lead : Room := { frames := 4, cells := 0, slots := 0, locals := 93 }
def b_T_lead_136 (k53 : Int32 → Int32 → Int32 → Int32 → fb_S → Option (Int32 × fb_S)) (x2 : Int32) (x3 : Int32) (x4 : Int32) (x5 : Int32) (st : fb_S) : Option (Int32 × fb_S) := k53 x2 x3 x4 (x5 + (1 : Int32)) st
set_option maxHeartbeats 4000000 in
set_option maxRecDepth 100000 in
theorem w_T_lead_136 {p : Program} {l : Launch} {e : Env} {s : State} {m : MethodId} {args : Array Value} {below : List Frame} {meth : Method} {c : Code} {A : Nat → Prop} {dC : Nat → ClassId} {dI : Nat → Nat → Nat} {dA : Nat → ClassId} {a : Nat → Nat} {z : Nat → Nat} (CX : fb_C p s m args meth c kc_T_lead (some .int) 7 "FileTree" (dC, dI) vcl (tX dA) A (zX z)) (o : Int32 × fb_S) (k53 : Int32 → Int32 → Int32 → Int32 → fb_S → Option (Int32 × fb_S)) (hk53 : ∀ (x2 : Int32) (x3 : Int32) (x4 : Int32) (x5 : Int32) (st : fb_S), k53 x2 x3 x4 x5 st = some o → fb_G p l e (headSpec kw_T_lead rm_T_lead).room s m args below meth c (dC, dI) vcl (tX dA) (wX dA a) A (some (.int o.1)) o.2 53 7 [(0, .ref (a 0)), (2, .int x2), (3, .int x3), (4, .int x4), (5, .int x5)] [] st) (x2 : Int32) (x3 : Int32) (x4 : Int32) (x5 : Int32) (st : fb_S) (hF : b_T_lead_136 k53 x2 x3 x4 x5 st = some o) : fb_G p l e (headSpec kw_T_lead rm_T_lead).room s m args below meth c (dC, dI) vcl (tX dA) (wX dA a) A (some (.int o.1)) o.2 136 7 [(0, .ref (a 0)), (2, .int x2), (3, .int x3), (4, .int x4), (5, .int x5)] [] st := by
  intro H locs hP hD hS ls hl
  obtain ⟨hx, hb, hr, hml, hown, hts, hK, hA, hlocks, hZ⟩ := id CX
  unfold b_T_lead_136 at hF
  refine lv_iinc (v := x5 + (1 : Int32)) (lv' := [(5, .int (x5 + (1 : Int32))), (0, .ref (a 0)), (2, .int x2), (3, .int x3), (4, .int x4)]) hx hb kd_T_lead_136 hl (k := 4) rfl rfl (by decide) rfl (fun ls hl => ?_)
  refine lv_goto (tgt := 53) hx hb kd_T_lead_139 (by decide) ?_
  exact hk53 x2 x3 x4 (x5 + (1 : Int32)) st hF H locs hP hD hS ls (lv_sub hl [1, 2, 3, 4, 0] rfl)
def b_T_lead_134 (k53 : Int32 → Int32 → Int32 → Int32 → fb_S → Option (Int32 × fb_S)) (x2 : Int32) (x3 : Int32) (x5 : Int32) (y0 : Int32) (st : fb_S) : Option (Int32 × fb_S) := b_T_lead_136 k53 x2 x3 y0 x5 st
set_option maxHeartbeats 4000000 in
set_option maxRecDepth 100000 in
theorem w_T_lead_134 {p : Program} {l : Launch} {e : Env} {s : State} {m : MethodId} {args : Array Value} {below : List Frame} {meth : Method} {c : Code} {A : Nat → Prop} {dC : Nat → ClassId} {dI : Nat → Nat → Nat} {dA : Nat → ClassId} {a : Nat → Nat} {z : Nat → Nat} (CX : fb_C p s m args meth c kc_T_lead (some .int) 7 "FileTree" (dC, dI) vcl (tX dA) A (zX z)) (o : Int32 × fb_S) (k53 : Int32 → Int32 → Int32 → Int32 → fb_S → Option (Int32 × fb_S)) (hk53 : ∀ (x2 : Int32) (x3 : Int32) (x4 : Int32) (x5 : Int32) (st : fb_S), k53 x2 x3 x4 x5 st = some o → fb_G p l e (headSpec kw_T_lead rm_T_lead).room s m args below meth c (dC, dI) vcl (tX dA) (wX dA a) A (some (.int o.1)) o.2 53 7 [(0, .ref (a 0)), (2, .int x2), (3, .int x3), (4, .int x4), (5, .int x5)] [] st) (x2 : Int32) (x3 : Int32) (x5 : Int32) (y0 : Int32) (st : fb_S) (hF : b_T_lead_134 k53 x2 x3 x5 y0 st = some o) : fb_G p l e (headSpec kw_T_lead rm_T_lead).room s m args below meth c (dC, dI) vcl (tX dA) (wX dA a) A (some (.int o.1)) o.2 134 7 [(0, .ref (a 0)), (2, .int x2), (3, .int x3), (5, .int x5)] [.int y0] st := by
  intro H locs hP hD hS ls hl
  obtain ⟨hx, hb, hr, hml, hown, hts, hK, hA, hlocks, hZ⟩ := id CX
  unfold b_T_lead_134 at hF
  refine lv_istore (lv' := [(4, .int y0), (0, .ref (a 0)), (2, .int x2), (3, .int x3), (5, .int x5)]) hx hb kd_T_lead_134 hl (by decide) rfl (fun ls hl => ?_)
  exact w_T_lead_136 CX o k53 hk53 x2 x3 y0 x5 st hF H locs hP hD hS ls (lv_sub hl [1, 2, 3, 0, 4] rfl)
def b_T_lead_53 (k53 : Int32 → Int32 → Int32 → Int32 → fb_S → Option (Int32 × fb_S)) (x2 : Int32) (x3 : Int32) (x4 : Int32) (x5 : Int32) (st : fb_S) : Option (Int32 × fb_S) := (if x3 ≤ x5 then some (x4, st) else (if x4 = (-1 : Int32) then some (x4, st) else (f_X_nameBegins x2 x5 st).bind fun r3 => (if r3.1 = (0 : Int32) then b_T_lead_136 k53 x2 x3 x4 x5 r3.2 else (f_X_copyName_name x5 x3 r3.2).bind fun r5 => (f_D_entryNamed_name x4 r5.2).bind fun r6 => (if r6.1 = (-1 : Int32) then b_T_lead_134 k53 x2 x3 x5 (-1 : Int32) r6.2 else (f_K_partAt r6.1 (65535 : Int32) r6.2).bind fun r8 => b_T_lead_134 k53 x2 x3 x5 r8.1 r8.2))))
set_option maxHeartbeats 4000000 in
set_option maxRecDepth 100000 in
theorem w_T_lead_53 {p : Program} {l : Launch} {e : Env} {s : State} {m : MethodId} {args : Array Value} {below : List Frame} {meth : Method} {c : Code} {A : Nat → Prop} {dC : Nat → ClassId} {dI : Nat → Nat → Nat} {dA : Nat → ClassId} {a : Nat → Nat} {z : Nat → Nat} (CX : fb_C p s m args meth c kc_T_lead (some .int) 7 "FileTree" (dC, dI) vcl (tX dA) A (zX z)) (o : Int32 × fb_S) (k53 : Int32 → Int32 → Int32 → Int32 → fb_S → Option (Int32 × fb_S)) (hk53 : ∀ (x2 : Int32) (x3 : Int32) (x4 : Int32) (x5 : Int32) (st : fb_S), k53 x2 x3 x4 x5 st = some o → fb_G p l e (headSpec kw_T_lead rm_T_lead).room s m args below meth c (dC, dI) vcl (tX dA) (wX dA a) A (some (.int o.1)) o.2 53 7 [(0, .ref (a 0)), (2, .int x2), (3, .int x3), (4, .int x4), (5, .int x5)] [] st) (x2 : Int32) (x3 : Int32) (x4 : Int32) (x5 : Int32) (st : fb_S) (hF : b_T_lead_53 k53 x2 x3 x4 x5 st = some o) : fb_G p l e (headSpec kw_T_lead rm_T_lead).room s m args below meth c (dC, dI) vcl (tX dA) (wX dA a) A (some (.int o.1)) o.2 53 7 [(0, .ref (a 0)), (2, .int x2), (3, .int x3), (4, .int x4), (5, .int x5)] [] st := by
  intro H locs hP hD hS ls hl
  obtain ⟨hx, hb, hr, hml, hown, hts, hK, hA, hlocks, hZ⟩ := id CX
  unfold b_T_lead_53 at hF
  refine lv_iload hx hb kd_T_lead_53 (lv_at hl 4 rfl) ?_
  refine lv_iload_n hx hb kd_T_lead_55 rfl (lv_at hl 2 rfl) ?_
  refine lv_icmp_ge (tgt := 142) hx hb kd_T_lead_56 (by decide) (fun c1 => ?_) (fun c1 => ?_)
  · rw [if_pos c1] at hF
    refine lv_iload hx hb kd_T_lead_142 (lv_at hl 3 rfl) ?_
    exact fb_ri (o := o) hx hb hr hlocks hK hP hD hS hF kd_T_lead_144
  · rw [if_neg c1] at hF
    refine lv_iload hx hb kd_T_lead_59 (lv_at hl 3 rfl) ?_
    refine lv_iconst (v := (-1)) hx hb kd_T_lead_61 (by decide) ?_
    refine lv_icmp_eq (tgt := 142) hx hb kd_T_lead_62 (by decide) (fun c2 => ?_) (fun c2 => ?_)
    · rw [if_pos c2] at hF
      refine lv_iload hx hb kd_T_lead_142 (lv_at hl 3 rfl) ?_
      exact fb_ri (o := o) hx hb hr hlocks hK hP hD hS hF kd_T_lead_144
    · rw [if_neg c2] at hF
      refine lv_aload_n hx hb kd_T_lead_65 rfl (lv_at hl 0 rfl) ?_
      refine va_get (D := (dC, dI)) (ci := 4) (v := .ref (a 4)) (C := "FileTree") (T := ft_T) (N := 5) hx hb hts fi_T hown hK hP 0 rfl rfl 3 (by decide) (hts _ q_210) (fun _ h9 => h9) rfl kd_T_lead_66 ?_
      refine lv_iload_n hx hb kd_T_lead_69 rfl (lv_at hl 1 rfl) ?_
      refine lv_iload hx hb kd_T_lead_70 (lv_at hl 4 rfl) ?_
      obtain ⟨r3, e_r3, hF⟩ := fb_ob hF
      refine fb_callV (As := [.int x2, .int x5]) (rest := []) ⟨hx, hb, hml, hown, hts⟩ zX_mv hZ hK hP hD hS hA (c_X_nameBegins l dC dI dA a z x2 x5 st r3 e_r3) (cwV 2 hts (gd_V q_254 ko_X_nameBegins) rfl rfl rfl kh_X_nameBegins ⟨Nat.le_of_ble_eq_true rfl, Nat.le_of_ble_eq_true rfl⟩) 3 4 rfl rfl rfl rfl hl.1 rfl (Nat.le_of_ble_eq_true rfl) kd_T_lead_72 ⟨Nat.zero_le _, Nat.zero_le _⟩ (fun H locs hP hD hS => ?_)
      refine W.eq (g2 := F0 m 75 ls [.int r3.1]) rfl ?_
      refine lv_if_eq (tgt := 136) hx hb kd_T_lead_75 (by decide) (fun c4 => ?_) (fun c4 => ?_)
      · rw [if_pos c4] at hF
        exact w_T_lead_136 CX o k53 hk53 x2 x3 x4 x5 r3.2 hF H locs hP hD hS ls (lv_sub hl [0, 1, 2, 3, 4] rfl)
      · rw [if_neg c4] at hF
        refine lv_aload_n hx hb kd_T_lead_78 rfl (lv_at hl 0 rfl) ?_
        refine va_get (D := (dC, dI)) (ci := 4) (v := .ref (a 4)) (C := "FileTree") (T := ft_T) (N := 5) hx hb hts fi_T hown hK hP 0 rfl rfl 3 (by decide) (hts _ q_210) (fun _ h9 => h9) rfl kd_T_lead_79 ?_
        refine lv_aload_n hx hb kd_T_lead_82 rfl (lv_at hl 0 rfl) ?_
        refine va_get (D := (dC, dI)) (ci := 4) (v := .ref (a 4)) (C := "FileTree") (T := ft_T) (N := 5) hx hb hts fi_T hown hK hP 0 rfl rfl 3 (by decide) (hts _ q_210) (fun _ h9 => h9) rfl kd_T_lead_83 ?_
        refine va_get (D := (dC, dI)) (ci := 3) (v := .ref (a 8)) (C := "FileTree$Text") (T := ft_X) (N := 4) hx hb hts fi_X hown hK hP 4 rfl rfl 1 (by decide) (hts _ q_66) (fun _ h9 => h9) rfl kd_T_lead_86 ?_
        refine lv_iload hx hb kd_T_lead_89 (lv_at hl 4 rfl) ?_
        refine lv_iload_n hx hb kd_T_lead_91 rfl (lv_at hl 2 rfl) ?_
        obtain ⟨r5, e_r5, hF⟩ := fb_ob hF
        refine fb_callV (As := [.ref (a 8), .int x5, .int x3]) (rest := []) ⟨hx, hb, hml, hown, hts⟩ zX_mv hZ hK hP hD hS hA (c_X_copyName_name l dC dI dA a z x5 x3 r3.2 r5 e_r5) (cwV 3 hts (gd_V q_258 ko_X_copyName) rfl rfl rfl kh_X_copyName ⟨Nat.le_of_ble_eq_true rfl, Nat.le_of_ble_eq_true rfl⟩) 3 4 rfl rfl rfl rfl hl.1 rfl (Nat.le_of_ble_eq_true rfl) kd_T_lead_92 ⟨Nat.zero_le _, Nat.zero_le _⟩ (fun H locs hP hD hS => ?_)
        refine W.eq (g2 := F0 m 95 ls []) rfl ?_
        refine lv_aload_n hx hb kd_T_lead_95 rfl (lv_at hl 0 rfl) ?_
        refine va_get (D := (dC, dI)) (ci := 4) (v := .ref (a 1)) (C := "FileTree") (T := ft_T) (N := 5) hx hb hts fi_T hown hK hP 0 rfl rfl 0 (by decide) (hts _ q_207) (fun _ h9 => h9) rfl kd_T_lead_96 ?_
        refine lv_iload hx hb kd_T_lead_99 (lv_at hl 3 rfl) ?_
        refine lv_aload_n hx hb kd_T_lead_101 rfl (lv_at hl 0 rfl) ?_
        refine va_get (D := (dC, dI)) (ci := 4) (v := .ref (a 4)) (C := "FileTree") (T := ft_T) (N := 5) hx hb hts fi_T hown hK hP 0 rfl rfl 3 (by decide) (hts _ q_210) (fun _ h9 => h9) rfl kd_T_lead_102 ?_
        refine va_get (D := (dC, dI)) (ci := 3) (v := .ref (a 8)) (C := "FileTree$Text") (T := ft_X) (N := 4) hx hb hts fi_X hown hK hP 4 rfl rfl 1 (by decide) (hts _ q_66) (fun _ h9 => h9) rfl kd_T_lead_105 ?_
        obtain ⟨r6, e_r6, hF⟩ := fb_ob hF
        refine fb_callV (As := [.int x4, .ref (a 8)]) (rest := []) ⟨hx, hb, hml, hown, hts⟩ zX_mv hZ hK hP hD hS hA (c_D_entryNamed_name l dC dI dA a z x4 r5.2 r6 e_r6) (cwV 2 hts (gd_V q_262 ko_D_entryNamed) rfl rfl rfl kh_D_entryNamed ⟨Nat.le_of_ble_eq_true rfl, Nat.le_of_ble_eq_true rfl⟩) 0 1 rfl rfl rfl rfl hl.1 rfl (Nat.le_of_ble_eq_true rfl) kd_T_lead_108 ⟨Nat.zero_le _, Nat.zero_le _⟩ (fun H locs hP hD hS => ?_)
        refine W.eq (g2 := F0 m 111 ls [.int r6.1]) rfl ?_
        refine lv_istore (lv' := [(6, .int r6.1), (0, .ref (a 0)), (2, .int x2), (3, .int x3), (4, .int x4), (5, .int x5)]) hx hb kd_T_lead_111 hl (by decide) rfl (fun ls hl => ?_)
        refine lv_iload hx hb kd_T_lead_113 (lv_at hl 0 rfl) ?_
        refine lv_iconst (v := (-1)) hx hb kd_T_lead_115 (by decide) ?_
        refine lv_icmp_ne (tgt := 123) hx hb kd_T_lead_116 (by decide) (fun c7 => ?_) (fun c7 => ?_)
        · rw [if_neg c7] at hF
          refine lv_aload_n hx hb kd_T_lead_123 rfl (lv_at hl 1 rfl) ?_
          refine va_get (D := (dC, dI)) (ci := 4) (v := .ref (a 3)) (C := "FileTree") (T := ft_T) (N := 5) hx hb hts fi_T hown hK hP 0 rfl rfl 2 (by decide) (hts _ q_209) (fun _ h9 => h9) rfl kd_T_lead_124 ?_
          refine lv_iload hx hb kd_T_lead_127 (lv_at hl 0 rfl) ?_
          refine lv_ldc (v := 65535) hx hb hown (hts _ q_270) kd_T_lead_129 ?_
          obtain ⟨r8, e_r8, hF⟩ := fb_ob hF
          refine fb_callV (As := [.int r6.1, .int (65535 : Int32)]) (rest := []) ⟨hx, hb, hml, hown, hts⟩ zX_mv hZ hK hP hD hS hA (c_K_partAt l dC dI dA a z r6.1 (65535 : Int32) r6.2 r8 e_r8) (cwV 2 hts (gd_V q_271 ko_K_partAt) rfl rfl rfl kh_K_partAt ⟨Nat.le_of_ble_eq_true rfl, Nat.le_of_ble_eq_true rfl⟩) 1 3 rfl rfl rfl rfl hl.1 rfl (Nat.le_of_ble_eq_true rfl) kd_T_lead_131 ⟨Nat.zero_le _, Nat.zero_le _⟩ (fun H locs hP hD hS => ?_)
          refine W.eq (g2 := F0 m 134 ls [.int r8.1]) rfl ?_
          exact w_T_lead_134 CX o k53 hk53 x2 x3 x5 r8.1 r8.2 hF H locs hP hD hS ls (lv_sub hl [1, 2, 3, 5] rfl)
        · rw [if_pos c7] at hF
          refine lv_iconst (v := (-1)) hx hb kd_T_lead_119 (by decide) ?_
          refine lv_goto (tgt := 134) hx hb kd_T_lead_120 (by decide) ?_
          exact w_T_lead_134 CX o k53 hk53 x2 x3 x5 (-1 : Int32) r6.2 hF H locs hP hD hS ls (lv_sub hl [1, 2, 3, 5] rfl)
def l_T_lead_53 : Nat → Int32 → Int32 → Int32 → Int32 → fb_S → Option (Int32 × fb_S)
  | 0 => fun _ _ _ _ _ => none
  | n + 1 => b_T_lead_53 (l_T_lead_53 n)
theorem v_T_lead_53 {p : Program} {l : Launch} {e : Env} {s : State} {m : MethodId} {args : Array Value} {below : List Frame} {meth : Method} {c : Code} {A : Nat → Prop} {dC : Nat → ClassId} {dI : Nat → Nat → Nat} {dA : Nat → ClassId} {a : Nat → Nat} {z : Nat → Nat} (CX : fb_C p s m args meth c kc_T_lead (some .int) 7 "FileTree" (dC, dI) vcl (tX dA) A (zX z)) (o : Int32 × fb_S) (n : Nat) : ∀ (x2 : Int32) (x3 : Int32) (x4 : Int32) (x5 : Int32) (st : fb_S), l_T_lead_53 n x2 x3 x4 x5 st = some o → fb_G p l e (headSpec kw_T_lead rm_T_lead).room s m args below meth c (dC, dI) vcl (tX dA) (wX dA a) A (some (.int o.1)) o.2 53 7 [(0, .ref (a 0)), (2, .int x2), (3, .int x3), (4, .int x4), (5, .int x5)] [] st := by
  induction n with
  | zero => intro x2 x3 x4 x5 st hF; cases hF
  | succ n ih => intro x2 x3 x4 x5 st hF; exact w_T_lead_53 CX o (l_T_lead_53 n) ih x2 x3 x4 x5 st hF
def b_T_lead_48 (x2 : Int32) (x3 : Int32) (y0 : Int32) (st : fb_S) : Option (Int32 × fb_S) := l_T_lead_53 fb_n x2 x3 y0 x2 st
set_option maxHeartbeats 4000000 in
set_option maxRecDepth 100000 in
theorem w_T_lead_48 {p : Program} {l : Launch} {e : Env} {s : State} {m : MethodId} {args : Array Value} {below : List Frame} {meth : Method} {c : Code} {A : Nat → Prop} {dC : Nat → ClassId} {dI : Nat → Nat → Nat} {dA : Nat → ClassId} {a : Nat → Nat} {z : Nat → Nat} (CX : fb_C p s m args meth c kc_T_lead (some .int) 7 "FileTree" (dC, dI) vcl (tX dA) A (zX z)) (o : Int32 × fb_S) (x2 : Int32) (x3 : Int32) (y0 : Int32) (st : fb_S) (hF : b_T_lead_48 x2 x3 y0 st = some o) : fb_G p l e (headSpec kw_T_lead rm_T_lead).room s m args below meth c (dC, dI) vcl (tX dA) (wX dA a) A (some (.int o.1)) o.2 48 7 [(0, .ref (a 0)), (2, .int x2), (3, .int x3)] [.int y0] st := by
  intro H locs hP hD hS ls hl
  obtain ⟨hx, hb, hr, hml, hown, hts, hK, hA, hlocks, hZ⟩ := id CX
  unfold b_T_lead_48 at hF
  refine lv_istore (lv' := [(4, .int y0), (0, .ref (a 0)), (2, .int x2), (3, .int x3)]) hx hb kd_T_lead_48 hl (by decide) rfl (fun ls hl => ?_)
  refine lv_iload_n hx hb kd_T_lead_50 rfl (lv_at hl 2 rfl) ?_
  refine lv_istore (lv' := [(5, .int x2), (4, .int y0), (0, .ref (a 0)), (2, .int x2), (3, .int x3)]) hx hb kd_T_lead_51 hl (by decide) rfl (fun ls hl => ?_)
  exact v_T_lead_53 CX o fb_n x2 x3 y0 x2 st hF H locs hP hD hS ls (lv_sub hl [2, 3, 4, 1, 0] rfl)
def b_T_lead_47 (x1 : Int32) (x2 : Int32) (x3 : Int32) (st : fb_S) : Option (Int32 × fb_S) := b_T_lead_48 x2 x3 x1 st
set_option maxHeartbeats 4000000 in
set_option maxRecDepth 100000 in
theorem w_T_lead_47 {p : Program} {l : Launch} {e : Env} {s : State} {m : MethodId} {args : Array Value} {below : List Frame} {meth : Method} {c : Code} {A : Nat → Prop} {dC : Nat → ClassId} {dI : Nat → Nat → Nat} {dA : Nat → ClassId} {a : Nat → Nat} {z : Nat → Nat} (CX : fb_C p s m args meth c kc_T_lead (some .int) 7 "FileTree" (dC, dI) vcl (tX dA) A (zX z)) (o : Int32 × fb_S) (x1 : Int32) (x2 : Int32) (x3 : Int32) (st : fb_S) (hF : b_T_lead_47 x1 x2 x3 st = some o) : fb_G p l e (headSpec kw_T_lead rm_T_lead).room s m args below meth c (dC, dI) vcl (tX dA) (wX dA a) A (some (.int o.1)) o.2 47 7 [(0, .ref (a 0)), (1, .int x1), (2, .int x2), (3, .int x3)] [] st := by
  intro H locs hP hD hS ls hl
  obtain ⟨hx, hb, hr, hml, hown, hts, hK, hA, hlocks, hZ⟩ := id CX
  unfold b_T_lead_47 at hF
  refine lv_iload_n hx hb kd_T_lead_47 rfl (lv_at hl 1 rfl) ?_
  exact w_T_lead_48 CX o x2 x3 x1 st hF H locs hP hD hS ls (lv_sub hl [0, 2, 3] rfl)
def f_T_lead (x1 : Int32) (x2 : Int32) (x3 : Int32) (st : fb_S) : Option (Int32 × fb_S) := (f_I_inUse x1 st).bind fun r1 => (if r1.1 = (0 : Int32) then some ((-1 : Int32), r1.2) else (f_X_isPath x2 x3 r1.2).bind fun r3 => (if r3.1 = (0 : Int32) then some ((-1 : Int32), r3.2) else (if x3 ≤ x2 then b_T_lead_47 x1 x2 x3 r3.2 else (f_X_byteAt x2 r3.2).bind fun r6 => (if r6.1 = (47 : Int32) then b_T_lead_48 x2 x3 (1 : Int32) r6.2 else b_T_lead_47 x1 x2 x3 r6.2))))
set_option maxHeartbeats 4000000 in
set_option maxRecDepth 100000 in
theorem w_T_lead_0 {p : Program} {l : Launch} {e : Env} {s : State} {m : MethodId} {args : Array Value} {below : List Frame} {meth : Method} {c : Code} {A : Nat → Prop} {dC : Nat → ClassId} {dI : Nat → Nat → Nat} {dA : Nat → ClassId} {a : Nat → Nat} {z : Nat → Nat} (CX : fb_C p s m args meth c kc_T_lead (some .int) 7 "FileTree" (dC, dI) vcl (tX dA) A (zX z)) (o : Int32 × fb_S) (x1 : Int32) (x2 : Int32) (x3 : Int32) (st : fb_S) (hF : f_T_lead x1 x2 x3 st = some o) : fb_G p l e (headSpec kw_T_lead rm_T_lead).room s m args below meth c (dC, dI) vcl (tX dA) (wX dA a) A (some (.int o.1)) o.2 0 7 [(0, .ref (a 0)), (1, .int x1), (2, .int x2), (3, .int x3)] [] st := by
  intro H locs hP hD hS ls hl
  obtain ⟨hx, hb, hr, hml, hown, hts, hK, hA, hlocks, hZ⟩ := id CX
  unfold f_T_lead at hF
  refine lv_aload_n hx hb kd_T_lead_0 rfl (lv_at hl 0 rfl) ?_
  refine va_get (D := (dC, dI)) (ci := 4) (v := .ref (a 2)) (C := "FileTree") (T := ft_T) (N := 5) hx hb hts fi_T hown hK hP 0 rfl rfl 1 (by decide) (hts _ q_208) (fun _ h9 => h9) rfl kd_T_lead_1 ?_
  refine lv_iload_n hx hb kd_T_lead_4 rfl (lv_at hl 1 rfl) ?_
  obtain ⟨r1, e_r1, hF⟩ := fb_ob hF
  refine fb_callV (As := [.int x1]) (rest := []) ⟨hx, hb, hml, hown, hts⟩ zX_mv hZ hK hP hD hS hA (c_I_inUse l dC dI dA a z x1 st r1 e_r1) (cwV 1 hts (gd_V q_240 ko_I_inUse) rfl rfl rfl kh_I_inUse ⟨Nat.le_of_ble_eq_true rfl, Nat.le_of_ble_eq_true rfl⟩) 2 2 rfl rfl rfl rfl hl.1 rfl (Nat.le_of_ble_eq_true rfl) kd_T_lead_5 ⟨Nat.zero_le _, Nat.zero_le _⟩ (fun H locs hP hD hS => ?_)
  refine W.eq (g2 := F0 m 8 ls [.int r1.1]) rfl ?_
  refine lv_if_eq (tgt := 23) hx hb kd_T_lead_8 (by decide) (fun c2 => ?_) (fun c2 => ?_)
  · rw [if_pos c2] at hF
    refine lv_iconst (v := (-1)) hx hb kd_T_lead_23 (by decide) ?_
    exact fb_ri (o := o) hx hb hr hlocks hK hP hD hS hF kd_T_lead_24
  · rw [if_neg c2] at hF
    refine lv_aload_n hx hb kd_T_lead_11 rfl (lv_at hl 0 rfl) ?_
    refine va_get (D := (dC, dI)) (ci := 4) (v := .ref (a 4)) (C := "FileTree") (T := ft_T) (N := 5) hx hb hts fi_T hown hK hP 0 rfl rfl 3 (by decide) (hts _ q_210) (fun _ h9 => h9) rfl kd_T_lead_12 ?_
    refine lv_iload_n hx hb kd_T_lead_15 rfl (lv_at hl 2 rfl) ?_
    refine lv_iload_n hx hb kd_T_lead_16 rfl (lv_at hl 3 rfl) ?_
    obtain ⟨r3, e_r3, hF⟩ := fb_ob hF
    refine fb_callV (As := [.int x2, .int x3]) (rest := []) ⟨hx, hb, hml, hown, hts⟩ zX_mv hZ hK hP hD hS hA (c_X_isPath l dC dI dA a z x2 x3 r1.2 r3 e_r3) (cwV 2 hts (gd_V q_245 ko_X_isPath) rfl rfl rfl kh_X_isPath ⟨Nat.le_of_ble_eq_true rfl, Nat.le_of_ble_eq_true rfl⟩) 3 4 rfl rfl rfl rfl hl.1 rfl (Nat.le_of_ble_eq_true rfl) kd_T_lead_17 ⟨Nat.zero_le _, Nat.zero_le _⟩ (fun H locs hP hD hS => ?_)
    refine W.eq (g2 := F0 m 20 ls [.int r3.1]) rfl ?_
    refine lv_if_ne (tgt := 25) hx hb kd_T_lead_20 (by decide) (fun c4 => ?_) (fun c4 => ?_)
    · rw [if_neg c4] at hF
      refine lv_iload_n hx hb kd_T_lead_25 rfl (lv_at hl 2 rfl) ?_
      refine lv_iload_n hx hb kd_T_lead_26 rfl (lv_at hl 3 rfl) ?_
      refine lv_icmp_ge (tgt := 47) hx hb kd_T_lead_27 (by decide) (fun c5 => ?_) (fun c5 => ?_)
      · rw [if_pos c5] at hF
        exact w_T_lead_47 CX o x1 x2 x3 r3.2 hF H locs hP hD hS ls (lv_sub hl [0, 1, 2, 3] rfl)
      · rw [if_neg c5] at hF
        refine lv_aload_n hx hb kd_T_lead_30 rfl (lv_at hl 0 rfl) ?_
        refine va_get (D := (dC, dI)) (ci := 4) (v := .ref (a 4)) (C := "FileTree") (T := ft_T) (N := 5) hx hb hts fi_T hown hK hP 0 rfl rfl 3 (by decide) (hts _ q_210) (fun _ h9 => h9) rfl kd_T_lead_31 ?_
        refine lv_iload_n hx hb kd_T_lead_34 rfl (lv_at hl 2 rfl) ?_
        obtain ⟨r6, e_r6, hF⟩ := fb_ob hF
        refine fb_callV (As := [.int x2]) (rest := []) ⟨hx, hb, hml, hown, hts⟩ zX_mv hZ hK hP hD hS hA (c_X_byteAt l dC dI dA a z x2 r3.2 r6 e_r6) (cwV 1 hts (gd_V q_253 ko_X_byteAt) rfl rfl rfl kh_X_byteAt ⟨Nat.le_of_ble_eq_true rfl, Nat.le_of_ble_eq_true rfl⟩) 3 4 rfl rfl rfl rfl hl.1 rfl (Nat.le_of_ble_eq_true rfl) kd_T_lead_35 ⟨Nat.zero_le _, Nat.zero_le _⟩ (fun H locs hP hD hS => ?_)
        refine W.eq (g2 := F0 m 38 ls [.int r6.1]) rfl ?_
        refine lv_bipush (v := 47) hx hb kd_T_lead_38 (by decide) ?_
        refine lv_icmp_ne (tgt := 47) hx hb kd_T_lead_40 (by decide) (fun c7 => ?_) (fun c7 => ?_)
        · rw [if_neg c7] at hF
          exact w_T_lead_47 CX o x1 x2 x3 r6.2 hF H locs hP hD hS ls (lv_sub hl [0, 1, 2, 3] rfl)
        · rw [if_pos c7] at hF
          refine lv_iconst (v := 1) hx hb kd_T_lead_43 (by decide) ?_
          refine lv_goto (tgt := 48) hx hb kd_T_lead_44 (by decide) ?_
          exact w_T_lead_48 CX o x2 x3 (1 : Int32) r6.2 hF H locs hP hD hS ls (lv_sub hl [0, 2, 3] rfl)
    · rw [if_pos c4] at hF
      refine lv_iconst (v := (-1)) hx hb kd_T_lead_23 (by decide) ?_
      exact fb_ri (o := o) hx hb hr hlocks hK hP hD hS hF kd_T_lead_24
theorem c_T_lead (l : Launch) (dC : Nat → ClassId) (dI : Nat → Nat → Nat) (dA : Nat → ClassId) (a : Nat → Nat) (z : Nat → Nat) (x1 : Int32) (x2 : Int32) (x3 : Int32) (st : fb_S) (o : Int32 × fb_S) (h : f_T_lead x1 x2 x3 st = some o) : fb_M l ky_T_lead kw_T_lead rm_T_lead (dC, dI) vcl (tX dA) (wX dA a) (zX z) [.ref (a 0), .int x1, .int x2, .int x3] (some (.int o.1)) st o.2 := fb_enter (by decide) rfl (Nat.le_of_ble_eq_true rfl) (fun p e s m below meth c A CX hP hD hS ls hl => w_T_lead_0 CX o x1 x2 x3 st h s.heap [] hP hD hS ls hl)
