abbrev rm_M_mapByte : Room := { frames := 0, cells := 0, slots := 0, locals := 0 }
def b_M_mapByte_39 (k4 : Int32 → Int32 → Int32 → fb_S → Option (Int32 × fb_S)) (x1 : Int32) (x3 : Int32) (y0 : Int32) (st : fb_S) : Option (Int32 × fb_S) := k4 x1 y0 (x3 + (1 : Int32)) st
set_option maxHeartbeats 4000000 in
set_option maxRecDepth 100000 in
theorem w_M_mapByte_39 {p : Program} {l : Launch} {e : Env} {s : State} {m : MethodId} {args : Array Value} {below : List Frame} {meth : Method} {c : Code} {A : Nat → Prop} {dC : Nat → ClassId} {dI : Nat → Nat → Nat} {dA : Nat → ClassId} {a : Nat → Nat} (CX : fb_C p s m args meth c kc_M_mapByte (some .int) 4 "FileTreeModel" (dC, dI) vcl (tM dA) A zM) (o : Int32 × fb_S) (k4 : Int32 → Int32 → Int32 → fb_S → Option (Int32 × fb_S)) (hk4 : ∀ (x1 : Int32) (x2 : Int32) (x3 : Int32) (st : fb_S), k4 x1 x2 x3 st = some o → fb_G p l e (headSpec kw_M_mapByte rm_M_mapByte).room s m args below meth c (dC, dI) vcl (tM dA) (wM dA a) A (some (.int o.1)) o.2 4 4 [(0, .ref (a 0)), (1, .int x1), (2, .int x2), (3, .int x3)] [] st) (x1 : Int32) (x3 : Int32) (y0 : Int32) (st : fb_S) (hF : b_M_mapByte_39 k4 x1 x3 y0 st = some o) : fb_G p l e (headSpec kw_M_mapByte rm_M_mapByte).room s m args below meth c (dC, dI) vcl (tM dA) (wM dA a) A (some (.int o.1)) o.2 39 4 [(0, .ref (a 0)), (1, .int x1), (3, .int x3)] [.int y0] st := by
  intro H locs hP hD hS ls hl
  obtain ⟨hx, hb, hr, hml, hown, hts, hK, hA, hlocks, hZ⟩ := id CX
  unfold b_M_mapByte_39 at hF
  refine lv_istore_n (lv' := [(2, .int y0), (0, .ref (a 0)), (1, .int x1), (3, .int x3)]) hx hb kd_M_mapByte_39 rfl hl (by decide) rfl (fun ls hl => ?_)
  refine lv_iinc (v := x3 + (1 : Int32)) (lv' := [(3, .int (x3 + (1 : Int32))), (2, .int y0), (0, .ref (a 0)), (1, .int x1)]) hx hb kd_M_mapByte_40 hl (k := 3) rfl rfl (by decide) rfl (fun ls hl => ?_)
  refine lv_goto (tgt := 4) hx hb kd_M_mapByte_43 (by decide) ?_
  exact hk4 x1 y0 (x3 + (1 : Int32)) st hF H locs hP hD hS ls (lv_sub hl [2, 3, 1, 0] rfl)
def b_M_mapByte_4 (k4 : Int32 → Int32 → Int32 → fb_S → Option (Int32 × fb_S)) (x1 : Int32) (x2 : Int32) (x3 : Int32) (st : fb_S) : Option (Int32 × fb_S) := (if (8 : Int32) ≤ x3 then some (x2, st) else (if (64 : Int32) ≤ x1 then some (x2, st) else (fb_ld (st 3) 512 (((8 : Int32) * x1) + x3)).bind fun v3 => (if v3 = (0 : Int32) then b_M_mapByte_39 k4 x1 x3 x2 st else b_M_mapByte_39 k4 x1 x3 (x2 ||| ((1 : Int32) <<< (x3 &&& 31))) st)))
set_option maxHeartbeats 4000000 in
set_option maxRecDepth 100000 in
theorem w_M_mapByte_4 {p : Program} {l : Launch} {e : Env} {s : State} {m : MethodId} {args : Array Value} {below : List Frame} {meth : Method} {c : Code} {A : Nat → Prop} {dC : Nat → ClassId} {dI : Nat → Nat → Nat} {dA : Nat → ClassId} {a : Nat → Nat} (CX : fb_C p s m args meth c kc_M_mapByte (some .int) 4 "FileTreeModel" (dC, dI) vcl (tM dA) A zM) (o : Int32 × fb_S) (k4 : Int32 → Int32 → Int32 → fb_S → Option (Int32 × fb_S)) (hk4 : ∀ (x1 : Int32) (x2 : Int32) (x3 : Int32) (st : fb_S), k4 x1 x2 x3 st = some o → fb_G p l e (headSpec kw_M_mapByte rm_M_mapByte).room s m args below meth c (dC, dI) vcl (tM dA) (wM dA a) A (some (.int o.1)) o.2 4 4 [(0, .ref (a 0)), (1, .int x1), (2, .int x2), (3, .int x3)] [] st) (x1 : Int32) (x2 : Int32) (x3 : Int32) (st : fb_S) (hF : b_M_mapByte_4 k4 x1 x2 x3 st = some o) : fb_G p l e (headSpec kw_M_mapByte rm_M_mapByte).room s m args below meth c (dC, dI) vcl (tM dA) (wM dA a) A (some (.int o.1)) o.2 4 4 [(0, .ref (a 0)), (1, .int x1), (2, .int x2), (3, .int x3)] [] st := by
  intro H locs hP hD hS ls hl
  obtain ⟨hx, hb, hr, hml, hown, hts, hK, hA, hlocks, hZ⟩ := id CX
  unfold b_M_mapByte_4 at hF
  refine lv_iload_n hx hb kd_M_mapByte_4 rfl (lv_at hl 3 rfl) ?_
  refine lv_bipush (v := 8) hx hb kd_M_mapByte_5 (by decide) ?_
  refine lv_icmp_ge (tgt := 46) hx hb kd_M_mapByte_7 (by decide) (fun c1 => ?_) (fun c1 => ?_)
  · rw [if_pos c1] at hF
    refine lv_iload_n hx hb kd_M_mapByte_46 rfl (lv_at hl 2 rfl) ?_
    exact fb_ri (o := o) hx hb hr hlocks hK hP hD hS hF kd_M_mapByte_47
  · rw [if_neg c1] at hF
    refine lv_iload_n hx hb kd_M_mapByte_10 rfl (lv_at hl 1 rfl) ?_
    refine lv_bipush (v := 64) hx hb kd_M_mapByte_11 (by decide) ?_
    refine lv_icmp_ge (tgt := 46) hx hb kd_M_mapByte_13 (by decide) (fun c2 => ?_) (fun c2 => ?_)
    · rw [if_pos c2] at hF
      refine lv_iload_n hx hb kd_M_mapByte_46 rfl (lv_at hl 2 rfl) ?_
      exact fb_ri (o := o) hx hb hr hlocks hK hP hD hS hF kd_M_mapByte_47
    · rw [if_neg c2] at hF
      refine lv_aload_n hx hb kd_M_mapByte_16 rfl (lv_at hl 0 rfl) ?_
      refine va_get (D := (dC, dI)) (ci := 5) (v := .ref (a 4)) (C := "FileTreeModel") (T := ft_M) (N := 18) hx hb hts fi_M hown hK hP 0 rfl rfl 5 (by decide) (hts _ q_474) (fun _ h9 => h9) rfl kd_M_mapByte_17 ?_
      refine lv_bipush (v := 8) hx hb kd_M_mapByte_20 (by decide) ?_
      refine lv_iload_n hx hb kd_M_mapByte_22 rfl (lv_at hl 1 rfl) ?_
      refine lv_imul hx hb kd_M_mapByte_23 ?_
      refine lv_iload_n hx hb kd_M_mapByte_24 rfl (lv_at hl 3 rfl) ?_
      refine lv_iadd hx hb kd_M_mapByte_25 ?_
      obtain ⟨v3, e_v3, hF⟩ := fb_ob hF
      refine fb_zald hx hb hK hP 4 2 rfl rfl e_v3 kd_M_mapByte_26 ?_
      refine lv_if_eq (tgt := 38) hx hb kd_M_mapByte_27 (by decide) (fun c4 => ?_) (fun c4 => ?_)
      · rw [if_pos c4] at hF
        refine lv_iload_n hx hb kd_M_mapByte_38 rfl (lv_at hl 2 rfl) ?_
        exact w_M_mapByte_39 CX o k4 hk4 x1 x3 x2 st hF H locs hP hD hS ls (lv_sub hl [0, 1, 3] rfl)
      · rw [if_neg c4] at hF
        refine lv_iload_n hx hb kd_M_mapByte_30 rfl (lv_at hl 2 rfl) ?_
        refine lv_iconst (v := 1) hx hb kd_M_mapByte_31 (by decide) ?_
        refine lv_iload_n hx hb kd_M_mapByte_32 rfl (lv_at hl 3 rfl) ?_
        refine lv_ishl hx hb kd_M_mapByte_33 ?_
        refine lv_ior hx hb kd_M_mapByte_34 ?_
        refine lv_goto (tgt := 39) hx hb kd_M_mapByte_35 (by decide) ?_
        exact w_M_mapByte_39 CX o k4 hk4 x1 x3 (x2 ||| ((1 : Int32) <<< (x3 &&& 31))) st hF H locs hP hD hS ls (lv_sub hl [0, 1, 3] rfl)
def l_M_mapByte_4 : Nat → Int32 → Int32 → Int32 → fb_S → Option (Int32 × fb_S)
  | 0 => fun _ _ _ _ => none
  | n + 1 => b_M_mapByte_4 (l_M_mapByte_4 n)
theorem v_M_mapByte_4 {p : Program} {l : Launch} {e : Env} {s : State} {m : MethodId} {args : Array Value} {below : List Frame} {meth : Method} {c : Code} {A : Nat → Prop} {dC : Nat → ClassId} {dI : Nat → Nat → Nat} {dA : Nat → ClassId} {a : Nat → Nat} (CX : fb_C p s m args meth c kc_M_mapByte (some .int) 4 "FileTreeModel" (dC, dI) vcl (tM dA) A zM) (o : Int32 × fb_S) (n : Nat) : ∀ (x1 : Int32) (x2 : Int32) (x3 : Int32) (st : fb_S), l_M_mapByte_4 n x1 x2 x3 st = some o → fb_G p l e (headSpec kw_M_mapByte rm_M_mapByte).room s m args below meth c (dC, dI) vcl (tM dA) (wM dA a) A (some (.int o.1)) o.2 4 4 [(0, .ref (a 0)), (1, .int x1), (2, .int x2), (3, .int x3)] [] st := by
  induction n with
  | zero => intro x1 x2 x3 st hF; cases hF
  | succ n ih => intro x1 x2 x3 st hF; exact w_M_mapByte_4 CX o (l_M_mapByte_4 n) ih x1 x2 x3 st hF
def f_M_mapByte (x1 : Int32) (st : fb_S) : Option (Int32 × fb_S) := l_M_mapByte_4 fb_n x1 (0 : Int32) (0 : Int32) st
set_option maxHeartbeats 4000000 in
set_option maxRecDepth 100000 in
theorem w_M_mapByte_0 {p : Program} {l : Launch} {e : Env} {s : State} {m : MethodId} {args : Array Value} {below : List Frame} {meth : Method} {c : Code} {A : Nat → Prop} {dC : Nat → ClassId} {dI : Nat → Nat → Nat} {dA : Nat → ClassId} {a : Nat → Nat} (CX : fb_C p s m args meth c kc_M_mapByte (some .int) 4 "FileTreeModel" (dC, dI) vcl (tM dA) A zM) (o : Int32 × fb_S) (x1 : Int32) (st : fb_S) (hF : f_M_mapByte x1 st = some o) : fb_G p l e (headSpec kw_M_mapByte rm_M_mapByte).room s m args below meth c (dC, dI) vcl (tM dA) (wM dA a) A (some (.int o.1)) o.2 0 4 [(0, .ref (a 0)), (1, .int x1)] [] st := by
  intro H locs hP hD hS ls hl
  obtain ⟨hx, hb, hr, hml, hown, hts, hK, hA, hlocks, hZ⟩ := id CX
  unfold f_M_mapByte at hF
  refine lv_iconst (v := 0) hx hb kd_M_mapByte_0 (by decide) ?_
  refine lv_istore_n (lv' := [(2, .int (0 : Int32)), (0, .ref (a 0)), (1, .int x1)]) hx hb kd_M_mapByte_1 rfl hl (by decide) rfl (fun ls hl => ?_)
  refine lv_iconst (v := 0) hx hb kd_M_mapByte_2 (by decide) ?_
  refine lv_istore_n (lv' := [(3, .int (0 : Int32)), (2, .int (0 : Int32)), (0, .ref (a 0)), (1, .int x1)]) hx hb kd_M_mapByte_3 rfl hl (by decide) rfl (fun ls hl => ?_)
  exact v_M_mapByte_4 CX o fb_n x1 (0 : Int32) (0 : Int32) st hF H locs hP hD hS ls (lv_sub hl [2, 3, 1, 0] rfl)
theorem c_M_mapByte (l : Launch) (dC : Nat → ClassId) (dI : Nat → Nat → Nat) (dA : Nat → ClassId) (a : Nat → Nat) (x1 : Int32) (st : fb_S) (o : Int32 × fb_S) (h : f_M_mapByte x1 st = some o) : fb_M l ky_M_mapByte kw_M_mapByte rm_M_mapByte (dC, dI) vcl (tM dA) (wM dA a) zM [.ref (a 0), .int x1] (some (.int o.1)) st o.2 := fb_enter (by decide) rfl (Nat.le_of_ble_eq_true rfl) (fun p e s m below meth c A CX hP hD hS ls hl => w_M_mapByte_0 CX o x1 st h s.heap [] hP hD hS ls hl)
abbrev rm_M_superByte : Room := { frames := 1, cells := 0, slots := 0, locals := 21 }
def f_M_superByte (x1 : Int32) (st : fb_S) : Option (Int32 × fb_S) := (if (32 : Int32) ≤ x1 then some ((0 : Int32), st) else (fb_ld (st 12) 8 (x1 / (4 : Int32))).bind fun v2 => (f_M_of v2 (x1 - x1 / (4 : Int32) * (4 : Int32)) st).bind fun r3 => some (r3.1, r3.2))
set_option maxHeartbeats 4000000 in
set_option maxRecDepth 100000 in
theorem w_M_superByte_0 {p : Program} {l : Launch} {e : Env} {s : State} {m : MethodId} {args : Array Value} {below : List Frame} {meth : Method} {c : Code} {A : Nat → Prop} {dC : Nat → ClassId} {dI : Nat → Nat → Nat} {dA : Nat → ClassId} {a : Nat → Nat} (CX : fb_C p s m args meth c kc_M_superByte (some .int) 2 "FileTreeModel" (dC, dI) vcl (tM dA) A zM) (o : Int32 × fb_S) (x1 : Int32) (st : fb_S) (hF : f_M_superByte x1 st = some o) : fb_G p l e (headSpec kw_M_superByte rm_M_superByte).room s m args below meth c (dC, dI) vcl (tM dA) (wM dA a) A (some (.int o.1)) o.2 0 2 [(0, .ref (a 0)), (1, .int x1)] [] st := by
  intro H locs hP hD hS ls hl
  obtain ⟨hx, hb, hr, hml, hown, hts, hK, hA, hlocks, hZ⟩ := id CX
  unfold f_M_superByte at hF
  refine lv_iload_n hx hb kd_M_superByte_0 rfl (lv_at hl 1 rfl) ?_
  refine lv_bipush (v := 32) hx hb kd_M_superByte_1 (by decide) ?_
  refine lv_icmp_ge (tgt := 23) hx hb kd_M_superByte_3 (by decide) (fun c1 => ?_) (fun c1 => ?_)
  · rw [if_pos c1] at hF
    refine lv_iconst (v := 0) hx hb kd_M_superByte_23 (by decide) ?_
    exact fb_ri (o := o) hx hb hr hlocks hK hP hD hS hF kd_M_superByte_24
  · rw [if_neg c1] at hF
    refine lv_aload_n hx hb kd_M_superByte_6 rfl (lv_at hl 0 rfl) ?_
    refine va_get (D := (dC, dI)) (ci := 5) (v := .ref (a 13)) (C := "FileTreeModel") (T := ft_M) (N := 18) hx hb hts fi_M hown hK hP 0 rfl rfl 14 (by decide) (hts _ q_483) (fun _ h9 => h9) rfl kd_M_superByte_7 ?_
    refine lv_iload_n hx hb kd_M_superByte_10 rfl (lv_at hl 1 rfl) ?_
    refine lv_iconst (v := 4) hx hb kd_M_superByte_11 (by decide) ?_
    refine lv_idiv hx hb kd_M_superByte_12 (by decide) ?_
    obtain ⟨v2, e_v2, hF⟩ := fb_ob hF
    refine fb_iald hx hb hK hP 13 0 rfl rfl e_v2 kd_M_superByte_13 ?_
    refine lv_iload_n hx hb kd_M_superByte_14 rfl (lv_at hl 1 rfl) ?_
    refine lv_iconst (v := 4) hx hb kd_M_superByte_15 (by decide) ?_
    refine lv_irem hx hb kd_M_superByte_16 (by decide) ?_
    obtain ⟨r3, e_r3, hF⟩ := fb_ob hF
    refine fb_callS (As := [.int v2, .int (x1 - x1 / (4 : Int32) * (4 : Int32))]) (rest := []) ⟨hx, hb, hml, hown, hts⟩ zM_mv hZ hK hP hD hS hA (c_M_of l dC dI dA a v2 (x1 - x1 / (4 : Int32) * (4 : Int32)) st r3 e_r3) (va_cwS 2 hts (gd_S q_683 ko_M_of) rfl rfl rfl kh_M_of ⟨Nat.le_of_ble_eq_true rfl, Nat.le_of_ble_eq_true rfl⟩) rfl hl.1 rfl (Nat.le_of_ble_eq_true rfl) kd_M_superByte_17 ⟨Nat.zero_le _, Nat.zero_le _⟩ (fun H locs hP hD hS => ?_)
    refine W.eq (g2 := F0 m 20 ls [.int r3.1]) rfl ?_
    refine lv_goto (tgt := 24) hx hb kd_M_superByte_20 (by decide) ?_
    exact fb_ri (o := o) hx hb hr hlocks hK hP hD hS hF kd_M_superByte_24
theorem c_M_superByte (l : Launch) (dC : Nat → ClassId) (dI : Nat → Nat → Nat) (dA : Nat → ClassId) (a : Nat → Nat) (x1 : Int32) (st : fb_S) (o : Int32 × fb_S) (h : f_M_superByte x1 st = some o) : fb_M l ky_M_superByte kw_M_superByte rm_M_superByte (dC, dI) vcl (tM dA) (wM dA a) zM [.ref (a 0), .int x1] (some (.int o.1)) st o.2 := fb_enter (by decide) rfl (Nat.le_of_ble_eq_true rfl) (fun p e s m below meth c A CX hP hD hS ls hl => w_M_superByte_0 CX o x1 st h s.heap [] hP hD hS ls hl)
abbrev rm_M_peek : Room := { frames := 2, cells := 0, slots := 0, locals := 44 }
def b_M_peek_87 (x1 : Int32) (x2 : Int32) (st : fb_S) : Option (Int32 × fb_S) := (fb_ld (st 2) 524288 (((1024 : Int32) * x1) + x2)).bind fun v1 => some (v1 &&& (255 : Int32), st)
set_option maxHeartbeats 4000000 in
set_option maxRecDepth 100000 in
theorem w_M_peek_87 {p : Program} {l : Launch} {e : Env} {s : State} {m : MethodId} {args : Array Value} {below : List Frame} {meth : Method} {c : Code} {A : Nat → Prop} {dC : Nat → ClassId} {dI : Nat → Nat → Nat} {dA : Nat → ClassId} {a : Nat → Nat} (CX : fb_C p s m args meth c kc_M_peek (some .int) 3 "FileTreeModel" (dC, dI) vcl (tM dA) A zM) (o : Int32 × fb_S) (x1 : Int32) (x2 : Int32) (st : fb_S) (hF : b_M_peek_87 x1 x2 st = some o) : fb_G p l e (headSpec kw_M_peek rm_M_peek).room s m args below meth c (dC, dI) vcl (tM dA) (wM dA a) A (some (.int o.1)) o.2 87 3 [(0, .ref (a 0)), (1, .int x1), (2, .int x2)] [] st := by
  intro H locs hP hD hS ls hl
  obtain ⟨hx, hb, hr, hml, hown, hts, hK, hA, hlocks, hZ⟩ := id CX
  unfold b_M_peek_87 at hF
  refine lv_aload_n hx hb kd_M_peek_87 rfl (lv_at hl 0 rfl) ?_
  refine va_get (D := (dC, dI)) (ci := 5) (v := .ref (a 3)) (C := "FileTreeModel") (T := ft_M) (N := 18) hx hb hts fi_M hown hK hP 0 rfl rfl 4 (by decide) (hts _ q_473) (fun _ h9 => h9) rfl kd_M_peek_88 ?_
  refine lv_sipush (v := 1024) hx hb kd_M_peek_91 (by decide) ?_
  refine lv_iload_n hx hb kd_M_peek_94 rfl (lv_at hl 1 rfl) ?_
  refine lv_imul hx hb kd_M_peek_95 ?_
  refine lv_iload_n hx hb kd_M_peek_96 rfl (lv_at hl 2 rfl) ?_
  refine lv_iadd hx hb kd_M_peek_97 ?_
  obtain ⟨v1, e_v1, hF⟩ := fb_ob hF
  refine fb_bald hx hb hK hP 3 1 rfl rfl e_v1 kd_M_peek_98 ?_
  refine lv_sipush (v := 255) hx hb kd_M_peek_99 (by decide) ?_
  refine lv_iand hx hb kd_M_peek_102 ?_
  exact fb_ri (o := o) hx hb hr hlocks hK hP hD hS hF kd_M_peek_103
def f_M_peek (x1 : Int32) (x2 : Int32) (st : fb_S) : Option (Int32 × fb_S) := (fb_pf st 14 (0 : Int32)).bind fun s1 => (if x1 < (0 : Int32) then some ((-1 : Int32), s1) else (if (511 : Int32) < x1 then some ((-1 : Int32), s1) else (if x2 < (0 : Int32) then some ((-1 : Int32), s1) else (if x2 ≤ (1023 : Int32) then (if x1 = (1 : Int32) then (f_M_superByte x2 s1).bind fun r12 => some (r12.1, r12.2) else (if x1 = (37 : Int32) then (f_M_mapByte x2 s1).bind fun r11 => some (r11.1, r11.2) else (if x1 ≤ (32 : Int32) then b_M_peek_87 x1 x2 s1 else (if (37 : Int32) ≤ x1 then b_M_peek_87 x1 x2 s1 else (f_M_inodeByte (((16 : Int32) * (x1 - (33 : Int32))) + (x2 / (64 : Int32))) (x2 - x2 / (64 : Int32) * (64 : Int32)) s1).bind fun r10 => some (r10.1, r10.2))))) else some ((-1 : Int32), s1)))))
set_option maxHeartbeats 4000000 in
set_option maxRecDepth 100000 in
theorem w_M_peek_0 {p : Program} {l : Launch} {e : Env} {s : State} {m : MethodId} {args : Array Value} {below : List Frame} {meth : Method} {c : Code} {A : Nat → Prop} {dC : Nat → ClassId} {dI : Nat → Nat → Nat} {dA : Nat → ClassId} {a : Nat → Nat} (CX : fb_C p s m args meth c kc_M_peek (some .int) 3 "FileTreeModel" (dC, dI) vcl (tM dA) A zM) (o : Int32 × fb_S) (x1 : Int32) (x2 : Int32) (st : fb_S) (hF : f_M_peek x1 x2 st = some o) : fb_G p l e (headSpec kw_M_peek rm_M_peek).room s m args below meth c (dC, dI) vcl (tM dA) (wM dA a) A (some (.int o.1)) o.2 0 3 [(0, .ref (a 0)), (1, .int x1), (2, .int x2)] [] st := by
  intro H locs hP hD hS ls hl
  obtain ⟨hx, hb, hr, hml, hown, hts, hK, hA, hlocks, hZ⟩ := id CX
  unfold f_M_peek at hF
  refine lv_aload_n hx hb kd_M_peek_0 rfl (lv_at hl 0 rfl) ?_
  refine lv_iconst (v := 0) hx hb kd_M_peek_1 (by decide) ?_
  obtain ⟨s1, e_s1, hF⟩ := fb_ob hF
  refine va_put (D := (dC, dI)) (ci := 5) (v := .int (0 : Int32)) (ty := .int) (C := "FileTreeModel") (T := ft_M) (N := 18) hx hb hts fi_M fy_M fo_M fn_M hown hK hP hD hS 0 rfl rfl 0 (by decide) (hts _ q_469) (fun _ h9 => h9) rfl (by decide +kernel) rfl rfl (Nat.le_of_ble_eq_true rfl) kd_M_peek_2 (fun H locs hP hD hS => ?_)
  cases e_s1
  obtain ⟨s1, e_s1⟩ : ∃ z : fb_S, z = va_up st 14 (upd (st 14) 0 (0 : Int32)) := ⟨_, rfl⟩
  rw [← e_s1] at hF
  have hP : va_P (dC, dI) vcl ((wM dA a) s1) H := by rw [e_s1]; exact hP
  have hD : va_D A ((wM dA a) s1) := by rw [e_s1]; exact hD
  refine lv_iload_n hx hb kd_M_peek_5 rfl (lv_at hl 1 rfl) ?_
  refine lv_if_lt (tgt := 27) hx hb kd_M_peek_6 (by decide) (fun c2 => ?_) (fun c2 => ?_)
  · rw [if_pos c2] at hF
    refine lv_iconst (v := (-1)) hx hb kd_M_peek_27 (by decide) ?_
    exact fb_ri (o := o) hx hb hr hlocks hK hP hD hS hF kd_M_peek_28
  · rw [if_neg c2] at hF
    refine lv_iload_n hx hb kd_M_peek_9 rfl (lv_at hl 1 rfl) ?_
    refine lv_sipush (v := 511) hx hb kd_M_peek_10 (by decide) ?_
    refine lv_icmp_gt (tgt := 27) hx hb kd_M_peek_13 (by decide) (fun c3 => ?_) (fun c3 => ?_)
    · rw [if_pos c3] at hF
      refine lv_iconst (v := (-1)) hx hb kd_M_peek_27 (by decide) ?_
      exact fb_ri (o := o) hx hb hr hlocks hK hP hD hS hF kd_M_peek_28
    · rw [if_neg c3] at hF
      refine lv_iload_n hx hb kd_M_peek_16 rfl (lv_at hl 2 rfl) ?_
      refine lv_if_lt (tgt := 27) hx hb kd_M_peek_17 (by decide) (fun c4 => ?_) (fun c4 => ?_)
      · rw [if_pos c4] at hF
        refine lv_iconst (v := (-1)) hx hb kd_M_peek_27 (by decide) ?_
        exact fb_ri (o := o) hx hb hr hlocks hK hP hD hS hF kd_M_peek_28
      · rw [if_neg c4] at hF
        refine lv_iload_n hx hb kd_M_peek_20 rfl (lv_at hl 2 rfl) ?_
        refine lv_sipush (v := 1023) hx hb kd_M_peek_21 (by decide) ?_
        refine lv_icmp_le (tgt := 29) hx hb kd_M_peek_24 (by decide) (fun c5 => ?_) (fun c5 => ?_)
        · rw [if_pos c5] at hF
          refine lv_iload_n hx hb kd_M_peek_29 rfl (lv_at hl 1 rfl) ?_
          refine lv_iconst (v := 1) hx hb kd_M_peek_30 (by decide) ?_
          refine lv_icmp_ne (tgt := 40) hx hb kd_M_peek_31 (by decide) (fun c6 => ?_) (fun c6 => ?_)
          · rw [if_neg c6] at hF
            refine lv_iload_n hx hb kd_M_peek_40 rfl (lv_at hl 1 rfl) ?_
            refine lv_bipush (v := 37) hx hb kd_M_peek_41 (by decide) ?_
            refine lv_icmp_ne (tgt := 52) hx hb kd_M_peek_43 (by decide) (fun c7 => ?_) (fun c7 => ?_)
            · rw [if_neg c7] at hF
              refine lv_iload_n hx hb kd_M_peek_52 rfl (lv_at hl 1 rfl) ?_
              refine lv_bipush (v := 32) hx hb kd_M_peek_53 (by decide) ?_
              refine lv_icmp_le (tgt := 87) hx hb kd_M_peek_55 (by decide) (fun c8 => ?_) (fun c8 => ?_)
              · rw [if_pos c8] at hF
                exact w_M_peek_87 CX o x1 x2 s1 hF H locs hP hD hS ls (lv_sub hl [0, 1, 2] rfl)
              · rw [if_neg c8] at hF
                refine lv_iload_n hx hb kd_M_peek_58 rfl (lv_at hl 1 rfl) ?_
                refine lv_bipush (v := 37) hx hb kd_M_peek_59 (by decide) ?_
                refine lv_icmp_ge (tgt := 87) hx hb kd_M_peek_61 (by decide) (fun c9 => ?_) (fun c9 => ?_)
                · rw [if_pos c9] at hF
                  exact w_M_peek_87 CX o x1 x2 s1 hF H locs hP hD hS ls (lv_sub hl [0, 1, 2] rfl)
                · rw [if_neg c9] at hF
                  refine lv_aload_n hx hb kd_M_peek_64 rfl (lv_at hl 0 rfl) ?_
                  refine lv_bipush (v := 16) hx hb kd_M_peek_65 (by decide) ?_
                  refine lv_iload_n hx hb kd_M_peek_67 rfl (lv_at hl 1 rfl) ?_
                  refine lv_bipush (v := 33) hx hb kd_M_peek_68 (by decide) ?_
                  refine lv_isub hx hb kd_M_peek_70 ?_
                  refine lv_imul hx hb kd_M_peek_71 ?_
                  refine lv_iload_n hx hb kd_M_peek_72 rfl (lv_at hl 2 rfl) ?_
                  refine lv_bipush (v := 64) hx hb kd_M_peek_73 (by decide) ?_
                  refine lv_idiv hx hb kd_M_peek_75 (by decide) ?_
                  refine lv_iadd hx hb kd_M_peek_76 ?_
                  refine lv_iload_n hx hb kd_M_peek_77 rfl (lv_at hl 2 rfl) ?_
                  refine lv_bipush (v := 64) hx hb kd_M_peek_78 (by decide) ?_
                  refine lv_irem hx hb kd_M_peek_80 (by decide) ?_
                  obtain ⟨r10, e_r10, hF⟩ := fb_ob hF
                  refine fb_callV (As := [.int (((16 : Int32) * (x1 - (33 : Int32))) + (x2 / (64 : Int32))), .int (x2 - x2 / (64 : Int32) * (64 : Int32))]) (rest := []) ⟨hx, hb, hml, hown, hts⟩ zM_mv hZ hK hP hD hS hA (c_M_inodeByte l dC dI dA a (((16 : Int32) * (x1 - (33 : Int32))) + (x2 / (64 : Int32))) (x2 - x2 / (64 : Int32) * (64 : Int32)) s1 r10 e_r10) (cwV 2 hts (gd_V q_690 ko_M_inodeByte) rfl rfl rfl kh_M_inodeByte ⟨Nat.le_of_ble_eq_true rfl, Nat.le_of_ble_eq_true rfl⟩) 5 0 rfl rfl rfl rfl hl.1 rfl (Nat.le_of_ble_eq_true rfl) kd_M_peek_81 ⟨Nat.zero_le _, Nat.zero_le _⟩ (fun H locs hP hD hS => ?_)
                  refine W.eq (g2 := F0 m 84 ls [.int r10.1]) rfl ?_
                  refine lv_goto (tgt := 103) hx hb kd_M_peek_84 (by decide) ?_
                  exact fb_ri (o := o) hx hb hr hlocks hK hP hD hS hF kd_M_peek_103
            · rw [if_pos c7] at hF
              refine lv_aload_n hx hb kd_M_peek_46 rfl (lv_at hl 0 rfl) ?_
              refine lv_iload_n hx hb kd_M_peek_47 rfl (lv_at hl 2 rfl) ?_
              obtain ⟨r11, e_r11, hF⟩ := fb_ob hF
              refine fb_callV (As := [.int x2]) (rest := []) ⟨hx, hb, hml, hown, hts⟩ zM_mv hZ hK hP hD hS hA (c_M_mapByte l dC dI dA a x2 s1 r11 e_r11) (cwV 1 hts (gd_V q_686 ko_M_mapByte) rfl rfl rfl kh_M_mapByte ⟨Nat.le_of_ble_eq_true rfl, Nat.le_of_ble_eq_true rfl⟩) 5 0 rfl rfl rfl rfl hl.1 rfl (Nat.le_of_ble_eq_true rfl) kd_M_peek_48 ⟨Nat.zero_le _, Nat.zero_le _⟩ (fun H locs hP hD hS => ?_)
              refine W.eq (g2 := F0 m 51 ls [.int r11.1]) rfl ?_
              exact fb_ri (o := o) hx hb hr hlocks hK hP hD hS hF kd_M_peek_51
          · rw [if_pos c6] at hF
            refine lv_aload_n hx hb kd_M_peek_34 rfl (lv_at hl 0 rfl) ?_
            refine lv_iload_n hx hb kd_M_peek_35 rfl (lv_at hl 2 rfl) ?_
            obtain ⟨r12, e_r12, hF⟩ := fb_ob hF
            refine fb_callV (As := [.int x2]) (rest := []) ⟨hx, hb, hml, hown, hts⟩ zM_mv hZ hK hP hD hS hA (c_M_superByte l dC dI dA a x2 s1 r12 e_r12) (cwV 1 hts (gd_V q_679 ko_M_superByte) rfl rfl rfl kh_M_superByte ⟨Nat.le_of_ble_eq_true rfl, Nat.le_of_ble_eq_true rfl⟩) 5 0 rfl rfl rfl rfl hl.1 rfl (Nat.le_of_ble_eq_true rfl) kd_M_peek_36 ⟨Nat.zero_le _, Nat.zero_le _⟩ (fun H locs hP hD hS => ?_)
            refine W.eq (g2 := F0 m 39 ls [.int r12.1]) rfl ?_
            exact fb_ri (o := o) hx hb hr hlocks hK hP hD hS hF kd_M_peek_39
        · rw [if_neg c5] at hF
          refine lv_iconst (v := (-1)) hx hb kd_M_peek_27 (by decide) ?_
          exact fb_ri (o := o) hx hb hr hlocks hK hP hD hS hF kd_M_peek_28
theorem c_M_peek (l : Launch) (dC : Nat → ClassId) (dI : Nat → Nat → Nat) (dA : Nat → ClassId) (a : Nat → Nat) (x1 : Int32) (x2 : Int32) (st : fb_S) (o : Int32 × fb_S) (h : f_M_peek x1 x2 st = some o) : fb_M l ky_M_peek kw_M_peek rm_M_peek (dC, dI) vcl (tM dA) (wM dA a) zM [.ref (a 0), .int x1, .int x2] (some (.int o.1)) st o.2 := fb_enter (by decide) rfl (Nat.le_of_ble_eq_true rfl) (fun p e s m below meth c A CX hP hD hS ls hl => w_M_peek_0 CX o x1 x2 st h s.heap [] hP hD hS ls hl)
abbrev rm_M_init : Room := { frames := 3, cells := 14, slots := 545818, locals := 71 }
def b_M_init_187 (k165 : Int32 → fb_S → Option (Int32 × fb_S)) (x1 : Int32) (y0 : Int32) (y1 : Int32) (st : fb_S) : Option (Int32 × fb_S) := (fb_st st 3 512 y1 (y0 &&& 1)).bind fun s1 => k165 (x1 + (1 : Int32)) s1
set_option maxHeartbeats 4000000 in
set_option maxRecDepth 100000 in
theorem w_M_init_187 {p : Program} {l : Launch} {e : Env} {s : State} {m : MethodId} {args : Array Value} {below : List Frame} {meth : Method} {c : Code} {A : Nat → Prop} {dC : Nat → ClassId} {dI : Nat → Nat → Nat} {dA : Nat → ClassId} {a : Nat → Nat} (CX : fb_C p s m args meth c kc_M_init none 2 "FileTreeModel" (dC, dI) vcl (tM dA) A zM) (o : Int32 × fb_S) (k165 : Int32 → fb_S → Option (Int32 × fb_S)) (hk165 : ∀ (x1 : Int32) (st : fb_S), k165 x1 st = some o → fb_Gk 14 545818 p l e (headSpec kw_M_init rm_M_init).room s m args below meth c (dC, dI) vcl (tM dA) (wM dA a) A none o.2 165 2 [(0, .ref (a 0)), (1, .int x1)] [] st) (x1 : Int32) (y0 : Int32) (y1 : Int32) (st : fb_S) (hF : b_M_init_187 k165 x1 y0 y1 st = some o) : fb_Gk 14 545818 p l e (headSpec kw_M_init rm_M_init).room s m args below meth c (dC, dI) vcl (tM dA) (wM dA a) A none o.2 187 2 [(0, .ref (a 0)), (1, .int x1)] [.int y0, .int y1, .ref (a 4)] st := by
  intro H locs hP hD hS ls hl
  obtain ⟨hx, hb, hr, hml, hown, hts, hK, hA, hlocks, hZ⟩ := id CX
  unfold b_M_init_187 at hF
  obtain ⟨s1, e_s1, hF⟩ := fb_ob hF
  refine fb_zast (wx := (wM dA a)) (k := 3) hx hb hK hP hD hS 4 2 rfl rfl e_s1 (fun _ => rfl) kd_M_init_187 (fun H locs hP hD hS => ?_)
  refine lv_iinc (v := x1 + (1 : Int32)) (lv' := [(1, .int (x1 + (1 : Int32))), (0, .ref (a 0))]) hx hb kd_M_init_188 hl (k := 1) rfl rfl (by decide) rfl (fun ls hl => ?_)
  refine lv_goto (tgt := 165) hx hb kd_M_init_191 (by decide) ?_
  exact hk165 (x1 + (1 : Int32)) s1 hF H locs hP hD hS ls (lv_sub hl [1, 0] rfl)
def b_M_init_165 (k165 : Int32 → fb_S → Option (Int32 × fb_S)) (x1 : Int32) (st : fb_S) : Option (Int32 × fb_S) := (if (39 : Int32) ≤ x1 then (fb_st st 4 64 (1 : Int32) (1 : Int32)).bind fun s2 => (f_M_begins (1 : Int32) (1 : Int32) s2).bind fun r3 => (fb_st r3.2 7 64 (1 : Int32) (2 : Int32)).bind fun s4 => some (0, s4) else (if (38 : Int32) ≤ x1 then b_M_init_187 k165 x1 (0 : Int32) x1 st else b_M_init_187 k165 x1 (1 : Int32) x1 st))
set_option maxHeartbeats 4000000 in
set_option maxRecDepth 100000 in
theorem w_M_init_165 {p : Program} {l : Launch} {e : Env} {s : State} {m : MethodId} {args : Array Value} {below : List Frame} {meth : Method} {c : Code} {A : Nat → Prop} {dC : Nat → ClassId} {dI : Nat → Nat → Nat} {dA : Nat → ClassId} {a : Nat → Nat} (CX : fb_C p s m args meth c kc_M_init none 2 "FileTreeModel" (dC, dI) vcl (tM dA) A zM) (o : Int32 × fb_S) (k165 : Int32 → fb_S → Option (Int32 × fb_S)) (hk165 : ∀ (x1 : Int32) (st : fb_S), k165 x1 st = some o → fb_Gk 14 545818 p l e (headSpec kw_M_init rm_M_init).room s m args below meth c (dC, dI) vcl (tM dA) (wM dA a) A none o.2 165 2 [(0, .ref (a 0)), (1, .int x1)] [] st) (x1 : Int32) (st : fb_S) (hF : b_M_init_165 k165 x1 st = some o) : fb_Gk 14 545818 p l e (headSpec kw_M_init rm_M_init).room s m args below meth c (dC, dI) vcl (tM dA) (wM dA a) A none o.2 165 2 [(0, .ref (a 0)), (1, .int x1)] [] st := by
  intro H locs hP hD hS ls hl
  obtain ⟨hx, hb, hr, hml, hown, hts, hK, hA, hlocks, hZ⟩ := id CX
  unfold b_M_init_165 at hF
  refine lv_iload_n hx hb kd_M_init_165 rfl (lv_at hl 1 rfl) ?_
  refine lv_bipush (v := 39) hx hb kd_M_init_166 (by decide) ?_
  refine lv_icmp_ge (tgt := 194) hx hb kd_M_init_168 (by decide) (fun c1 => ?_) (fun c1 => ?_)
  · rw [if_pos c1] at hF
    refine lv_aload_n hx hb kd_M_init_194 rfl (lv_at hl 0 rfl) ?_
    refine va_get (D := (dC, dI)) (ci := 5) (v := .ref (a 5)) (C := "FileTreeModel") (T := ft_M) (N := 18) hx hb hts fi_M hown hK hP 0 rfl rfl 6 (by decide) (hts _ q_475) (fun _ h9 => h9) rfl kd_M_init_195 ?_
    refine lv_iconst (v := 1) hx hb kd_M_init_198 (by decide) ?_
    refine lv_iconst (v := 1) hx hb kd_M_init_199 (by decide) ?_
    obtain ⟨s2, e_s2, hF⟩ := fb_ob hF
    refine fb_iast (wx := (wM dA a)) (k := 4) hx hb hK hP hD hS 5 0 rfl rfl e_s2 (fun _ => rfl) kd_M_init_200 (fun H locs hP hD hS => ?_)
    refine lv_aload_n hx hb kd_M_init_201 rfl (lv_at hl 0 rfl) ?_
    refine lv_iconst (v := 1) hx hb kd_M_init_202 (by decide) ?_
    refine lv_iconst (v := 1) hx hb kd_M_init_203 (by decide) ?_
    obtain ⟨r3, e_r3, hF⟩ := fb_ob hF
    refine fb_callV (As := [.int (1 : Int32), .int (1 : Int32)]) (rest := []) ⟨hx, hb, hml, hown, hts⟩ zM_mv hZ hK hP hD hS hA (c_M_begins l dC dI dA a (1 : Int32) (1 : Int32) s2 r3 e_r3) (cwV 2 hts (gd_V q_441 ko_M_begins) rfl rfl rfl kh_M_begins ⟨Nat.le_of_ble_eq_true rfl, Nat.le_of_ble_eq_true rfl⟩) 5 0 rfl rfl rfl rfl hl.1 rfl (Nat.le_of_ble_eq_true rfl) kd_M_init_204 ⟨Nat.le_of_ble_eq_true rfl, Nat.le_of_ble_eq_true rfl⟩ (fun H locs hP hD hS => ?_)
    refine W.eq (g2 := F0 m 207 ls []) rfl ?_
    refine lv_aload_n hx hb kd_M_init_207 rfl (lv_at hl 0 rfl) ?_
    refine va_get (D := (dC, dI)) (ci := 5) (v := .ref (a 8)) (C := "FileTreeModel") (T := ft_M) (N := 18) hx hb hts fi_M hown hK hP 0 rfl rfl 9 (by decide) (hts _ q_478) (fun _ h9 => h9) rfl kd_M_init_208 ?_
    refine lv_iconst (v := 1) hx hb kd_M_init_211 (by decide) ?_
    refine lv_iconst (v := 2) hx hb kd_M_init_212 (by decide) ?_
    obtain ⟨s4, e_s4, hF⟩ := fb_ob hF
    refine fb_iast (wx := (wM dA a)) (k := 7) hx hb hK hP hD hS 8 0 rfl rfl e_s4 (fun _ => rfl) kd_M_init_213 (fun H locs hP hD hS => ?_)
    exact fb_rvk (o := o) hx hb hr hlocks hK hP hD hS hF kd_M_init_214
  · rw [if_neg c1] at hF
    refine lv_aload_n hx hb kd_M_init_171 rfl (lv_at hl 0 rfl) ?_
    refine va_get (D := (dC, dI)) (ci := 5) (v := .ref (a 4)) (C := "FileTreeModel") (T := ft_M) (N := 18) hx hb hts fi_M hown hK hP 0 rfl rfl 5 (by decide) (hts _ q_474) (fun _ h9 => h9) rfl kd_M_init_172 ?_
    refine lv_iload_n hx hb kd_M_init_175 rfl (lv_at hl 1 rfl) ?_
    refine lv_iload_n hx hb kd_M_init_176 rfl (lv_at hl 1 rfl) ?_
    refine lv_bipush (v := 38) hx hb kd_M_init_177 (by decide) ?_
    refine lv_icmp_ge (tgt := 186) hx hb kd_M_init_179 (by decide) (fun c5 => ?_) (fun c5 => ?_)
    · rw [if_pos c5] at hF
      refine lv_iconst (v := 0) hx hb kd_M_init_186 (by decide) ?_
      exact w_M_init_187 CX o k165 hk165 x1 (0 : Int32) x1 st hF H locs hP hD hS ls (lv_sub hl [0, 1] rfl)
    · rw [if_neg c5] at hF
      refine lv_iconst (v := 1) hx hb kd_M_init_182 (by decide) ?_
      refine lv_goto (tgt := 187) hx hb kd_M_init_183 (by decide) ?_
      exact w_M_init_187 CX o k165 hk165 x1 (1 : Int32) x1 st hF H locs hP hD hS ls (lv_sub hl [0, 1] rfl)
def l_M_init_165 : Nat → Int32 → fb_S → Option (Int32 × fb_S)
  | 0 => fun _ _ => none
  | n + 1 => b_M_init_165 (l_M_init_165 n)
theorem v_M_init_165 {p : Program} {l : Launch} {e : Env} {s : State} {m : MethodId} {args : Array Value} {below : List Frame} {meth : Method} {c : Code} {A : Nat → Prop} {dC : Nat → ClassId} {dI : Nat → Nat → Nat} {dA : Nat → ClassId} {a : Nat → Nat} (CX : fb_C p s m args meth c kc_M_init none 2 "FileTreeModel" (dC, dI) vcl (tM dA) A zM) (o : Int32 × fb_S) (n : Nat) : ∀ (x1 : Int32) (st : fb_S), l_M_init_165 n x1 st = some o → fb_Gk 14 545818 p l e (headSpec kw_M_init rm_M_init).room s m args below meth c (dC, dI) vcl (tM dA) (wM dA a) A none o.2 165 2 [(0, .ref (a 0)), (1, .int x1)] [] st := by
  induction n with
  | zero => intro x1 st hF; cases hF
  | succ n ih => intro x1 st hF; exact w_M_init_165 CX o (l_M_init_165 n) ih x1 st hF
def b_M_init_163 (st : fb_S) : Option (Int32 × fb_S) := l_M_init_165 fb_n (0 : Int32) st
set_option maxHeartbeats 4000000 in
set_option maxRecDepth 100000 in
theorem w_M_init_163 {p : Program} {l : Launch} {e : Env} {s : State} {m : MethodId} {args : Array Value} {below : List Frame} {meth : Method} {c : Code} {A : Nat → Prop} {dC : Nat → ClassId} {dI : Nat → Nat → Nat} {dA : Nat → ClassId} {a : Nat → Nat} (CX : fb_C p s m args meth c kc_M_init none 2 "FileTreeModel" (dC, dI) vcl (tM dA) A zM) (o : Int32 × fb_S) (st : fb_S) (hF : b_M_init_163 st = some o) : fb_Gk 14 545818 p l e (headSpec kw_M_init rm_M_init).room s m args below meth c (dC, dI) vcl (tM dA) (wM dA a) A none o.2 163 2 [(0, .ref (a 0))] [] st := by
  intro H locs hP hD hS ls hl
  obtain ⟨hx, hb, hr, hml, hown, hts, hK, hA, hlocks, hZ⟩ := id CX
  unfold b_M_init_163 at hF
  refine lv_iconst (v := 0) hx hb kd_M_init_163 (by decide) ?_
  refine lv_istore_n (lv' := [(1, .int (0 : Int32)), (0, .ref (a 0))]) hx hb kd_M_init_164 rfl hl (by decide) rfl (fun ls hl => ?_)
  exact v_M_init_165 CX o fb_n (0 : Int32) st hF H locs hP hD hS ls (lv_sub hl [1, 0] rfl)
