abbrev rm_M_take : Room := { frames := 0, cells := 0, slots := 0, locals := 0 }
def b_M_take_27 (k27 : Int32 → Int32 → fb_S → Option (Int32 × fb_S)) (x1 : Int32) (x2 : Int32) (st : fb_S) : Option (Int32 × fb_S) := (if (1024 : Int32) ≤ x2 then some (x1, st) else (fb_st st 2 524288 (((1024 : Int32) * x1) + x2) (fb_b (0 : Int32))).bind fun s2 => k27 x1 (x2 + (1 : Int32)) s2)
set_option maxHeartbeats 4000000 in
set_option maxRecDepth 100000 in
theorem w_M_take_27 {p : Program} {l : Launch} {e : Env} {s : State} {m : MethodId} {args : Array Value} {below : List Frame} {meth : Method} {c : Code} {A : Nat → Prop} {dC : Nat → ClassId} {dI : Nat → Nat → Nat} {dA : Nat → ClassId} {a : Nat → Nat} (CX : fb_C p s m args meth c kc_M_take (some .int) 3 "FileTreeModel" (dC, dI) vcl (tM dA) A zM) (o : Int32 × fb_S) (k27 : Int32 → Int32 → fb_S → Option (Int32 × fb_S)) (hk27 : ∀ (x1 : Int32) (x2 : Int32) (st : fb_S), k27 x1 x2 st = some o → fb_G p l e (headSpec kw_M_take rm_M_take).room s m args below meth c (dC, dI) vcl (tM dA) (wM dA a) A (some (.int o.1)) o.2 27 3 [(0, .ref (a 0)), (1, .int x1), (2, .int x2)] [] st) (x1 : Int32) (x2 : Int32) (st : fb_S) (hF : b_M_take_27 k27 x1 x2 st = some o) : fb_G p l e (headSpec kw_M_take rm_M_take).room s m args below meth c (dC, dI) vcl (tM dA) (wM dA a) A (some (.int o.1)) o.2 27 3 [(0, .ref (a 0)), (1, .int x1), (2, .int x2)] [] st := by
  intro H locs hP hD hS ls hl
  obtain ⟨hx, hb, hr, hml, hown, hts, hK, hA, hlocks, hZ⟩ := id CX
  unfold b_M_take_27 at hF
  refine lv_iload_n hx hb kd_M_take_27 rfl (lv_at hl 2 rfl) ?_
  refine lv_sipush (v := 1024) hx hb kd_M_take_28 (by decide) ?_
  refine lv_icmp_ge (tgt := 53) hx hb kd_M_take_31 (by decide) (fun c1 => ?_) (fun c1 => ?_)
  · rw [if_pos c1] at hF
    refine lv_iload_n hx hb kd_M_take_53 rfl (lv_at hl 1 rfl) ?_
    exact fb_ri (o := o) hx hb hr hlocks hK hP hD hS hF kd_M_take_54
  · rw [if_neg c1] at hF
    refine lv_aload_n hx hb kd_M_take_34 rfl (lv_at hl 0 rfl) ?_
    refine va_get (D := (dC, dI)) (ci := 5) (v := .ref (a 3)) (C := "FileTreeModel") (T := ft_M) (N := 18) hx hb hts fi_M hown hK hP 0 rfl rfl 4 (by decide) (hts _ q_473) (fun _ h9 => h9) rfl kd_M_take_35 ?_
    refine lv_sipush (v := 1024) hx hb kd_M_take_38 (by decide) ?_
    refine lv_iload_n hx hb kd_M_take_41 rfl (lv_at hl 1 rfl) ?_
    refine lv_imul hx hb kd_M_take_42 ?_
    refine lv_iload_n hx hb kd_M_take_43 rfl (lv_at hl 2 rfl) ?_
    refine lv_iadd hx hb kd_M_take_44 ?_
    refine lv_iconst (v := 0) hx hb kd_M_take_45 (by decide) ?_
    obtain ⟨s2, e_s2, hF⟩ := fb_ob hF
    refine fb_bast (wx := (wM dA a)) (k := 2) hx hb hK hP hD hS 3 1 rfl rfl e_s2 (fun _ => rfl) kd_M_take_46 (fun H locs hP hD hS => ?_)
    refine lv_iinc (v := x2 + (1 : Int32)) (lv' := [(2, .int (x2 + (1 : Int32))), (0, .ref (a 0)), (1, .int x1)]) hx hb kd_M_take_47 hl (k := 2) rfl rfl (by decide) rfl (fun ls hl => ?_)
    refine lv_goto (tgt := 27) hx hb kd_M_take_50 (by decide) ?_
    exact hk27 x1 (x2 + (1 : Int32)) s2 hF H locs hP hD hS ls (lv_sub hl [1, 2, 0] rfl)
def l_M_take_27 : Nat → Int32 → Int32 → fb_S → Option (Int32 × fb_S)
  | 0 => fun _ _ _ => none
  | n + 1 => b_M_take_27 (l_M_take_27 n)
theorem v_M_take_27 {p : Program} {l : Launch} {e : Env} {s : State} {m : MethodId} {args : Array Value} {below : List Frame} {meth : Method} {c : Code} {A : Nat → Prop} {dC : Nat → ClassId} {dI : Nat → Nat → Nat} {dA : Nat → ClassId} {a : Nat → Nat} (CX : fb_C p s m args meth c kc_M_take (some .int) 3 "FileTreeModel" (dC, dI) vcl (tM dA) A zM) (o : Int32 × fb_S) (n : Nat) : ∀ (x1 : Int32) (x2 : Int32) (st : fb_S), l_M_take_27 n x1 x2 st = some o → fb_G p l e (headSpec kw_M_take rm_M_take).room s m args below meth c (dC, dI) vcl (tM dA) (wM dA a) A (some (.int o.1)) o.2 27 3 [(0, .ref (a 0)), (1, .int x1), (2, .int x2)] [] st := by
  induction n with
  | zero => intro x1 x2 st hF; cases hF
  | succ n ih => intro x1 x2 st hF; exact w_M_take_27 CX o (l_M_take_27 n) ih x1 x2 st hF
def b_M_take_3 (k3 : Int32 → fb_S → Option (Int32 × fb_S)) (x1 : Int32) (st : fb_S) : Option (Int32 × fb_S) := (fb_ld (st 3) 512 x1).bind fun v1 => (if v1 = (0 : Int32) then (fb_st st 3 512 x1 ((1 : Int32) &&& 1)).bind fun s3 => l_M_take_27 fb_n x1 (0 : Int32) s3 else k3 (x1 + (1 : Int32)) st)
set_option maxHeartbeats 4000000 in
set_option maxRecDepth 100000 in
theorem w_M_take_3 {p : Program} {l : Launch} {e : Env} {s : State} {m : MethodId} {args : Array Value} {below : List Frame} {meth : Method} {c : Code} {A : Nat → Prop} {dC : Nat → ClassId} {dI : Nat → Nat → Nat} {dA : Nat → ClassId} {a : Nat → Nat} (CX : fb_C p s m args meth c kc_M_take (some .int) 3 "FileTreeModel" (dC, dI) vcl (tM dA) A zM) (o : Int32 × fb_S) (k3 : Int32 → fb_S → Option (Int32 × fb_S)) (hk3 : ∀ (x1 : Int32) (st : fb_S), k3 x1 st = some o → fb_G p l e (headSpec kw_M_take rm_M_take).room s m args below meth c (dC, dI) vcl (tM dA) (wM dA a) A (some (.int o.1)) o.2 3 3 [(0, .ref (a 0)), (1, .int x1)] [] st) (x1 : Int32) (st : fb_S) (hF : b_M_take_3 k3 x1 st = some o) : fb_G p l e (headSpec kw_M_take rm_M_take).room s m args below meth c (dC, dI) vcl (tM dA) (wM dA a) A (some (.int o.1)) o.2 3 3 [(0, .ref (a 0)), (1, .int x1)] [] st := by
  intro H locs hP hD hS ls hl
  obtain ⟨hx, hb, hr, hml, hown, hts, hK, hA, hlocks, hZ⟩ := id CX
  unfold b_M_take_3 at hF
  refine lv_aload_n hx hb kd_M_take_3 rfl (lv_at hl 0 rfl) ?_
  refine va_get (D := (dC, dI)) (ci := 5) (v := .ref (a 4)) (C := "FileTreeModel") (T := ft_M) (N := 18) hx hb hts fi_M hown hK hP 0 rfl rfl 5 (by decide) (hts _ q_474) (fun _ h9 => h9) rfl kd_M_take_4 ?_
  refine lv_iload_n hx hb kd_M_take_7 rfl (lv_at hl 1 rfl) ?_
  obtain ⟨v1, e_v1, hF⟩ := fb_ob hF
  refine fb_zald hx hb hK hP 4 2 rfl rfl e_v1 kd_M_take_8 ?_
  refine lv_if_eq (tgt := 18) hx hb kd_M_take_9 (by decide) (fun c2 => ?_) (fun c2 => ?_)
  · rw [if_pos c2] at hF
    refine lv_aload_n hx hb kd_M_take_18 rfl (lv_at hl 0 rfl) ?_
    refine va_get (D := (dC, dI)) (ci := 5) (v := .ref (a 4)) (C := "FileTreeModel") (T := ft_M) (N := 18) hx hb hts fi_M hown hK hP 0 rfl rfl 5 (by decide) (hts _ q_474) (fun _ h9 => h9) rfl kd_M_take_19 ?_
    refine lv_iload_n hx hb kd_M_take_22 rfl (lv_at hl 1 rfl) ?_
    refine lv_iconst (v := 1) hx hb kd_M_take_23 (by decide) ?_
    obtain ⟨s3, e_s3, hF⟩ := fb_ob hF
    refine fb_zast (wx := (wM dA a)) (k := 3) hx hb hK hP hD hS 4 2 rfl rfl e_s3 (fun _ => rfl) kd_M_take_24 (fun H locs hP hD hS => ?_)
    refine lv_iconst (v := 0) hx hb kd_M_take_25 (by decide) ?_
    refine lv_istore_n (lv' := [(2, .int (0 : Int32)), (0, .ref (a 0)), (1, .int x1)]) hx hb kd_M_take_26 rfl hl (by decide) rfl (fun ls hl => ?_)
    exact v_M_take_27 CX o fb_n x1 (0 : Int32) s3 hF H locs hP hD hS ls (lv_sub hl [1, 2, 0] rfl)
  · rw [if_neg c2] at hF
    refine lv_iinc (v := x1 + (1 : Int32)) (lv' := [(1, .int (x1 + (1 : Int32))), (0, .ref (a 0))]) hx hb kd_M_take_12 hl (k := 1) rfl rfl (by decide) rfl (fun ls hl => ?_)
    refine lv_goto (tgt := 3) hx hb kd_M_take_15 (by decide) ?_
    exact hk3 (x1 + (1 : Int32)) st hF H locs hP hD hS ls (lv_sub hl [1, 0] rfl)
def l_M_take_3 : Nat → Int32 → fb_S → Option (Int32 × fb_S)
  | 0 => fun _ _ => none
  | n + 1 => b_M_take_3 (l_M_take_3 n)
theorem v_M_take_3 {p : Program} {l : Launch} {e : Env} {s : State} {m : MethodId} {args : Array Value} {below : List Frame} {meth : Method} {c : Code} {A : Nat → Prop} {dC : Nat → ClassId} {dI : Nat → Nat → Nat} {dA : Nat → ClassId} {a : Nat → Nat} (CX : fb_C p s m args meth c kc_M_take (some .int) 3 "FileTreeModel" (dC, dI) vcl (tM dA) A zM) (o : Int32 × fb_S) (n : Nat) : ∀ (x1 : Int32) (st : fb_S), l_M_take_3 n x1 st = some o → fb_G p l e (headSpec kw_M_take rm_M_take).room s m args below meth c (dC, dI) vcl (tM dA) (wM dA a) A (some (.int o.1)) o.2 3 3 [(0, .ref (a 0)), (1, .int x1)] [] st := by
  induction n with
  | zero => intro x1 st hF; cases hF
  | succ n ih => intro x1 st hF; exact w_M_take_3 CX o (l_M_take_3 n) ih x1 st hF
def f_M_take (st : fb_S) : Option (Int32 × fb_S) := l_M_take_3 fb_n (38 : Int32) st
set_option maxHeartbeats 4000000 in
set_option maxRecDepth 100000 in
theorem w_M_take_0 {p : Program} {l : Launch} {e : Env} {s : State} {m : MethodId} {args : Array Value} {below : List Frame} {meth : Method} {c : Code} {A : Nat → Prop} {dC : Nat → ClassId} {dI : Nat → Nat → Nat} {dA : Nat → ClassId} {a : Nat → Nat} (CX : fb_C p s m args meth c kc_M_take (some .int) 3 "FileTreeModel" (dC, dI) vcl (tM dA) A zM) (o : Int32 × fb_S) (st : fb_S) (hF : f_M_take st = some o) : fb_G p l e (headSpec kw_M_take rm_M_take).room s m args below meth c (dC, dI) vcl (tM dA) (wM dA a) A (some (.int o.1)) o.2 0 3 [(0, .ref (a 0))] [] st := by
  intro H locs hP hD hS ls hl
  obtain ⟨hx, hb, hr, hml, hown, hts, hK, hA, hlocks, hZ⟩ := id CX
  unfold f_M_take at hF
  refine lv_bipush (v := 38) hx hb kd_M_take_0 (by decide) ?_
  refine lv_istore_n (lv' := [(1, .int (38 : Int32)), (0, .ref (a 0))]) hx hb kd_M_take_2 rfl hl (by decide) rfl (fun ls hl => ?_)
  exact v_M_take_3 CX o fb_n (38 : Int32) st hF H locs hP hD hS ls (lv_sub hl [1, 0] rfl)
theorem c_M_take (l : Launch) (dC : Nat → ClassId) (dI : Nat → Nat → Nat) (dA : Nat → ClassId) (a : Nat → Nat) (st : fb_S) (o : Int32 × fb_S) (h : f_M_take st = some o) : fb_M l ky_M_take kw_M_take rm_M_take (dC, dI) vcl (tM dA) (wM dA a) zM [.ref (a 0)] (some (.int o.1)) st o.2 := fb_enter (by decide) rfl (Nat.le_of_ble_eq_true rfl) (fun p e s m below meth c A CX hP hD hS ls hl => w_M_take_0 CX o st h s.heap [] hP hD hS ls hl)
abbrev rm_M_putNumber : Room := { frames := 0, cells := 0, slots := 0, locals := 0 }
def b_M_putNumber_3 (k3 : Int32 → Int32 → Int32 → Int32 → fb_S → Option (Int32 × fb_S)) (x1 : Int32) (x2 : Int32) (x3 : Int32) (x4 : Int32) (st : fb_S) : Option (Int32 × fb_S) := (if x2 ≤ x4 then some (0, st) else (fb_st st 2 524288 (x1 + x4) (fb_b (fb_b (x3 >>> (((8 : Int32) * x4) &&& 31))))).bind fun s2 => k3 x1 x2 x3 (x4 + (1 : Int32)) s2)
set_option maxHeartbeats 4000000 in
set_option maxRecDepth 100000 in
theorem w_M_putNumber_3 {p : Program} {l : Launch} {e : Env} {s : State} {m : MethodId} {args : Array Value} {below : List Frame} {meth : Method} {c : Code} {A : Nat → Prop} {dC : Nat → ClassId} {dI : Nat → Nat → Nat} {dA : Nat → ClassId} {a : Nat → Nat} (CX : fb_C p s m args meth c kc_M_putNumber none 5 "FileTreeModel" (dC, dI) vcl (tM dA) A zM) (o : Int32 × fb_S) (k3 : Int32 → Int32 → Int32 → Int32 → fb_S → Option (Int32 × fb_S)) (hk3 : ∀ (x1 : Int32) (x2 : Int32) (x3 : Int32) (x4 : Int32) (st : fb_S), k3 x1 x2 x3 x4 st = some o → fb_G p l e (headSpec kw_M_putNumber rm_M_putNumber).room s m args below meth c (dC, dI) vcl (tM dA) (wM dA a) A none o.2 3 5 [(0, .ref (a 0)), (1, .int x1), (2, .int x2), (3, .int x3), (4, .int x4)] [] st) (x1 : Int32) (x2 : Int32) (x3 : Int32) (x4 : Int32) (st : fb_S) (hF : b_M_putNumber_3 k3 x1 x2 x3 x4 st = some o) : fb_G p l e (headSpec kw_M_putNumber rm_M_putNumber).room s m args below meth c (dC, dI) vcl (tM dA) (wM dA a) A none o.2 3 5 [(0, .ref (a 0)), (1, .int x1), (2, .int x2), (3, .int x3), (4, .int x4)] [] st := by
  intro H locs hP hD hS ls hl
  obtain ⟨hx, hb, hr, hml, hown, hts, hK, hA, hlocks, hZ⟩ := id CX
  unfold b_M_putNumber_3 at hF
  refine lv_iload hx hb kd_M_putNumber_3 (lv_at hl 4 rfl) ?_
  refine lv_iload_n hx hb kd_M_putNumber_5 rfl (lv_at hl 2 rfl) ?_
  refine lv_icmp_ge (tgt := 32) hx hb kd_M_putNumber_6 (by decide) (fun c1 => ?_) (fun c1 => ?_)
  · rw [if_pos c1] at hF
    exact fb_rv (o := o) hx hb hr hlocks hK hP hD hS hF kd_M_putNumber_32
  · rw [if_neg c1] at hF
    refine lv_aload_n hx hb kd_M_putNumber_9 rfl (lv_at hl 0 rfl) ?_
    refine va_get (D := (dC, dI)) (ci := 5) (v := .ref (a 3)) (C := "FileTreeModel") (T := ft_M) (N := 18) hx hb hts fi_M hown hK hP 0 rfl rfl 4 (by decide) (hts _ q_473) (fun _ h9 => h9) rfl kd_M_putNumber_10 ?_
    refine lv_iload_n hx hb kd_M_putNumber_13 rfl (lv_at hl 1 rfl) ?_
    refine lv_iload hx hb kd_M_putNumber_14 (lv_at hl 4 rfl) ?_
    refine lv_iadd hx hb kd_M_putNumber_16 ?_
    refine lv_iload_n hx hb kd_M_putNumber_17 rfl (lv_at hl 3 rfl) ?_
    refine lv_bipush (v := 8) hx hb kd_M_putNumber_18 (by decide) ?_
    refine lv_iload hx hb kd_M_putNumber_20 (lv_at hl 4 rfl) ?_
    refine lv_imul hx hb kd_M_putNumber_22 ?_
    refine lv_ishr hx hb kd_M_putNumber_23 ?_
    refine lv_i2b (v := fb_b (x3 >>> (((8 : Int32) * x4) &&& 31))) hx hb kd_M_putNumber_24 rfl ?_
    obtain ⟨s2, e_s2, hF⟩ := fb_ob hF
    refine fb_bast (wx := (wM dA a)) (k := 2) hx hb hK hP hD hS 3 1 rfl rfl e_s2 (fun _ => rfl) kd_M_putNumber_25 (fun H locs hP hD hS => ?_)
    refine lv_iinc (v := x4 + (1 : Int32)) (lv' := [(4, .int (x4 + (1 : Int32))), (0, .ref (a 0)), (1, .int x1), (2, .int x2), (3, .int x3)]) hx hb kd_M_putNumber_26 hl (k := 4) rfl rfl (by decide) rfl (fun ls hl => ?_)
    refine lv_goto (tgt := 3) hx hb kd_M_putNumber_29 (by decide) ?_
    exact hk3 x1 x2 x3 (x4 + (1 : Int32)) s2 hF H locs hP hD hS ls (lv_sub hl [1, 2, 3, 4, 0] rfl)
def l_M_putNumber_3 : Nat → Int32 → Int32 → Int32 → Int32 → fb_S → Option (Int32 × fb_S)
  | 0 => fun _ _ _ _ _ => none
  | n + 1 => b_M_putNumber_3 (l_M_putNumber_3 n)
theorem v_M_putNumber_3 {p : Program} {l : Launch} {e : Env} {s : State} {m : MethodId} {args : Array Value} {below : List Frame} {meth : Method} {c : Code} {A : Nat → Prop} {dC : Nat → ClassId} {dI : Nat → Nat → Nat} {dA : Nat → ClassId} {a : Nat → Nat} (CX : fb_C p s m args meth c kc_M_putNumber none 5 "FileTreeModel" (dC, dI) vcl (tM dA) A zM) (o : Int32 × fb_S) (n : Nat) : ∀ (x1 : Int32) (x2 : Int32) (x3 : Int32) (x4 : Int32) (st : fb_S), l_M_putNumber_3 n x1 x2 x3 x4 st = some o → fb_G p l e (headSpec kw_M_putNumber rm_M_putNumber).room s m args below meth c (dC, dI) vcl (tM dA) (wM dA a) A none o.2 3 5 [(0, .ref (a 0)), (1, .int x1), (2, .int x2), (3, .int x3), (4, .int x4)] [] st := by
  induction n with
  | zero => intro x1 x2 x3 x4 st hF; cases hF
  | succ n ih => intro x1 x2 x3 x4 st hF; exact w_M_putNumber_3 CX o (l_M_putNumber_3 n) ih x1 x2 x3 x4 st hF
def f_M_putNumber (x1 : Int32) (x2 : Int32) (x3 : Int32) (st : fb_S) : Option (Int32 × fb_S) := l_M_putNumber_3 fb_n x1 x2 x3 (0 : Int32) st
set_option maxHeartbeats 4000000 in
set_option maxRecDepth 100000 in
theorem w_M_putNumber_0 {p : Program} {l : Launch} {e : Env} {s : State} {m : MethodId} {args : Array Value} {below : List Frame} {meth : Method} {c : Code} {A : Nat → Prop} {dC : Nat → ClassId} {dI : Nat → Nat → Nat} {dA : Nat → ClassId} {a : Nat → Nat} (CX : fb_C p s m args meth c kc_M_putNumber none 5 "FileTreeModel" (dC, dI) vcl (tM dA) A zM) (o : Int32 × fb_S) (x1 : Int32) (x2 : Int32) (x3 : Int32) (st : fb_S) (hF : f_M_putNumber x1 x2 x3 st = some o) : fb_G p l e (headSpec kw_M_putNumber rm_M_putNumber).room s m args below meth c (dC, dI) vcl (tM dA) (wM dA a) A none o.2 0 5 [(0, .ref (a 0)), (1, .int x1), (2, .int x2), (3, .int x3)] [] st := by
  intro H locs hP hD hS ls hl
  obtain ⟨hx, hb, hr, hml, hown, hts, hK, hA, hlocks, hZ⟩ := id CX
  unfold f_M_putNumber at hF
  refine lv_iconst (v := 0) hx hb kd_M_putNumber_0 (by decide) ?_
  refine lv_istore (lv' := [(4, .int (0 : Int32)), (0, .ref (a 0)), (1, .int x1), (2, .int x2), (3, .int x3)]) hx hb kd_M_putNumber_1 hl (by decide) rfl (fun ls hl => ?_)
  exact v_M_putNumber_3 CX o fb_n x1 x2 x3 (0 : Int32) st hF H locs hP hD hS ls (lv_sub hl [1, 2, 3, 4, 0] rfl)
theorem c_M_putNumber (l : Launch) (dC : Nat → ClassId) (dI : Nat → Nat → Nat) (dA : Nat → ClassId) (a : Nat → Nat) (x1 : Int32) (x2 : Int32) (x3 : Int32) (st : fb_S) (o : Int32 × fb_S) (h : f_M_putNumber x1 x2 x3 st = some o) : fb_M l ky_M_putNumber kw_M_putNumber rm_M_putNumber (dC, dI) vcl (tM dA) (wM dA a) zM [.ref (a 0), .int x1, .int x2, .int x3] none st o.2 := fb_enter (by decide) rfl (Nat.le_of_ble_eq_true rfl) (fun p e s m below meth c A CX hP hD hS ls hl => w_M_putNumber_0 CX o x1 x2 x3 st h s.heap [] hP hD hS ls hl)
abbrev rm_M_grow : Room := { frames := 1, cells := 0, slots := 0, locals := 24 }
def b_M_grow_95 (x1 : Int32) (st : fb_S) : Option (Int32 × fb_S) := (fb_ld (st 10) 64 x1).bind fun v1 => (fb_st st 10 64 x1 (v1 + (1 : Int32))).bind fun s2 => some (0, s2)
set_option maxHeartbeats 4000000 in
set_option maxRecDepth 100000 in
theorem w_M_grow_95 {p : Program} {l : Launch} {e : Env} {s : State} {m : MethodId} {args : Array Value} {below : List Frame} {meth : Method} {c : Code} {A : Nat → Prop} {dC : Nat → ClassId} {dI : Nat → Nat → Nat} {dA : Nat → ClassId} {a : Nat → Nat} (CX : fb_C p s m args meth c kc_M_grow none 3 "FileTreeModel" (dC, dI) vcl (tM dA) A zM) (o : Int32 × fb_S) (x1 : Int32) (st : fb_S) (hF : b_M_grow_95 x1 st = some o) : fb_G p l e (headSpec kw_M_grow rm_M_grow).room s m args below meth c (dC, dI) vcl (tM dA) (wM dA a) A none o.2 95 3 [(0, .ref (a 0)), (1, .int x1)] [] st := by
  intro H locs hP hD hS ls hl
  obtain ⟨hx, hb, hr, hml, hown, hts, hK, hA, hlocks, hZ⟩ := id CX
  unfold b_M_grow_95 at hF
  refine lv_aload_n hx hb kd_M_grow_95 rfl (lv_at hl 0 rfl) ?_
  refine va_get (D := (dC, dI)) (ci := 5) (v := .ref (a 11)) (C := "FileTreeModel") (T := ft_M) (N := 18) hx hb hts fi_M hown hK hP 0 rfl rfl 12 (by decide) (hts _ q_481) (fun _ h9 => h9) rfl kd_M_grow_96 ?_
  refine lv_iload_n hx hb kd_M_grow_99 rfl (lv_at hl 1 rfl) ?_
  refine lv_dup2_11 hx hb kd_M_grow_100 rfl rfl ?_
  obtain ⟨v1, e_v1, hF⟩ := fb_ob hF
  refine fb_iald hx hb hK hP 11 0 rfl rfl e_v1 kd_M_grow_101 ?_
  refine lv_iconst (v := 1) hx hb kd_M_grow_102 (by decide) ?_
  refine lv_iadd hx hb kd_M_grow_103 ?_
  obtain ⟨s2, e_s2, hF⟩ := fb_ob hF
  refine fb_iast (wx := (wM dA a)) (k := 10) hx hb hK hP hD hS 11 0 rfl rfl e_s2 (fun _ => rfl) kd_M_grow_104 (fun H locs hP hD hS => ?_)
  exact fb_rv (o := o) hx hb hr hlocks hK hP hD hS hF kd_M_grow_105
def b_M_grow_31 (x1 : Int32) (x2 : Int32) (st : fb_S) : Option (Int32 × fb_S) := (f_M_take st).bind fun r1 => (fb_st r1.2 11 17216 (((269 : Int32) * x1) + x2) r1.1).bind fun s2 => (if x2 < (12 : Int32) then b_M_grow_95 x1 s2 else (fb_ld (s2 11) 17216 (((269 : Int32) * x1) + (268 : Int32))).bind fun v4 => (fb_ld (s2 11) 17216 (((269 : Int32) * x1) + x2)).bind fun v5 => (f_M_putNumber (((1024 : Int32) * v4) + ((4 : Int32) * (x2 - (12 : Int32)))) (4 : Int32) v5 s2).bind fun r6 => b_M_grow_95 x1 r6.2)
set_option maxHeartbeats 4000000 in
set_option maxRecDepth 100000 in
theorem w_M_grow_31 {p : Program} {l : Launch} {e : Env} {s : State} {m : MethodId} {args : Array Value} {below : List Frame} {meth : Method} {c : Code} {A : Nat → Prop} {dC : Nat → ClassId} {dI : Nat → Nat → Nat} {dA : Nat → ClassId} {a : Nat → Nat} (CX : fb_C p s m args meth c kc_M_grow none 3 "FileTreeModel" (dC, dI) vcl (tM dA) A zM) (o : Int32 × fb_S) (x1 : Int32) (x2 : Int32) (st : fb_S) (hF : b_M_grow_31 x1 x2 st = some o) : fb_G p l e (headSpec kw_M_grow rm_M_grow).room s m args below meth c (dC, dI) vcl (tM dA) (wM dA a) A none o.2 31 3 [(0, .ref (a 0)), (1, .int x1), (2, .int x2)] [] st := by
  intro H locs hP hD hS ls hl
  obtain ⟨hx, hb, hr, hml, hown, hts, hK, hA, hlocks, hZ⟩ := id CX
  unfold b_M_grow_31 at hF
  refine lv_aload_n hx hb kd_M_grow_31 rfl (lv_at hl 0 rfl) ?_
  refine va_get (D := (dC, dI)) (ci := 5) (v := .ref (a 12)) (C := "FileTreeModel") (T := ft_M) (N := 18) hx hb hts fi_M hown hK hP 0 rfl rfl 13 (by decide) (hts _ q_482) (fun _ h9 => h9) rfl kd_M_grow_32 ?_
  refine lv_sipush (v := 269) hx hb kd_M_grow_35 (by decide) ?_
  refine lv_iload_n hx hb kd_M_grow_38 rfl (lv_at hl 1 rfl) ?_
  refine lv_imul hx hb kd_M_grow_39 ?_
  refine lv_iload_n hx hb kd_M_grow_40 rfl (lv_at hl 2 rfl) ?_
  refine lv_iadd hx hb kd_M_grow_41 ?_
  refine lv_aload_n hx hb kd_M_grow_42 rfl (lv_at hl 0 rfl) ?_
  obtain ⟨r1, e_r1, hF⟩ := fb_ob hF
  refine fb_callV (As := []) (rest := [.int (((269 : Int32) * x1) + x2), .ref (a 12)]) ⟨hx, hb, hml, hown, hts⟩ zM_mv hZ hK hP hD hS hA (c_M_take l dC dI dA a st r1 e_r1) (cwV 0 hts (gd_V q_449 ko_M_take) rfl rfl rfl kh_M_take ⟨Nat.le_of_ble_eq_true rfl, Nat.le_of_ble_eq_true rfl⟩) 5 0 rfl rfl rfl rfl hl.1 rfl (Nat.le_of_ble_eq_true rfl) kd_M_grow_43 ⟨Nat.zero_le _, Nat.zero_le _⟩ (fun H locs hP hD hS => ?_)
  refine W.eq (g2 := F0 m 46 ls [.int r1.1, .int (((269 : Int32) * x1) + x2), .ref (a 12)]) rfl ?_
  obtain ⟨s2, e_s2, hF⟩ := fb_ob hF
  refine fb_iast (wx := (wM dA a)) (k := 11) hx hb hK hP hD hS 12 0 rfl rfl e_s2 (fun _ => rfl) kd_M_grow_46 (fun H locs hP hD hS => ?_)
  refine lv_iload_n hx hb kd_M_grow_47 rfl (lv_at hl 2 rfl) ?_
  refine lv_bipush (v := 12) hx hb kd_M_grow_48 (by decide) ?_
  refine lv_icmp_lt (tgt := 95) hx hb kd_M_grow_50 (by decide) (fun c3 => ?_) (fun c3 => ?_)
  · rw [if_pos c3] at hF
    exact w_M_grow_95 CX o x1 s2 hF H locs hP hD hS ls (lv_sub hl [0, 1] rfl)
  · rw [if_neg c3] at hF
    refine lv_aload_n hx hb kd_M_grow_53 rfl (lv_at hl 0 rfl) ?_
    refine lv_sipush (v := 1024) hx hb kd_M_grow_54 (by decide) ?_
    refine lv_aload_n hx hb kd_M_grow_57 rfl (lv_at hl 0 rfl) ?_
    refine va_get (D := (dC, dI)) (ci := 5) (v := .ref (a 12)) (C := "FileTreeModel") (T := ft_M) (N := 18) hx hb hts fi_M hown hK hP 0 rfl rfl 13 (by decide) (hts _ q_482) (fun _ h9 => h9) rfl kd_M_grow_58 ?_
    refine lv_sipush (v := 269) hx hb kd_M_grow_61 (by decide) ?_
    refine lv_iload_n hx hb kd_M_grow_64 rfl (lv_at hl 1 rfl) ?_
    refine lv_imul hx hb kd_M_grow_65 ?_
    refine lv_sipush (v := 268) hx hb kd_M_grow_66 (by decide) ?_
    refine lv_iadd hx hb kd_M_grow_69 ?_
    obtain ⟨v4, e_v4, hF⟩ := fb_ob hF
    refine fb_iald hx hb hK hP 12 0 rfl rfl e_v4 kd_M_grow_70 ?_
    refine lv_imul hx hb kd_M_grow_71 ?_
    refine lv_iconst (v := 4) hx hb kd_M_grow_72 (by decide) ?_
    refine lv_iload_n hx hb kd_M_grow_73 rfl (lv_at hl 2 rfl) ?_
    refine lv_bipush (v := 12) hx hb kd_M_grow_74 (by decide) ?_
    refine lv_isub hx hb kd_M_grow_76 ?_
    refine lv_imul hx hb kd_M_grow_77 ?_
    refine lv_iadd hx hb kd_M_grow_78 ?_
    refine lv_iconst (v := 4) hx hb kd_M_grow_79 (by decide) ?_
    refine lv_aload_n hx hb kd_M_grow_80 rfl (lv_at hl 0 rfl) ?_
    refine va_get (D := (dC, dI)) (ci := 5) (v := .ref (a 12)) (C := "FileTreeModel") (T := ft_M) (N := 18) hx hb hts fi_M hown hK hP 0 rfl rfl 13 (by decide) (hts _ q_482) (fun _ h9 => h9) rfl kd_M_grow_81 ?_
    refine lv_sipush (v := 269) hx hb kd_M_grow_84 (by decide) ?_
    refine lv_iload_n hx hb kd_M_grow_87 rfl (lv_at hl 1 rfl) ?_
    refine lv_imul hx hb kd_M_grow_88 ?_
    refine lv_iload_n hx hb kd_M_grow_89 rfl (lv_at hl 2 rfl) ?_
    refine lv_iadd hx hb kd_M_grow_90 ?_
    obtain ⟨v5, e_v5, hF⟩ := fb_ob hF
    refine fb_iald hx hb hK hP 12 0 rfl rfl e_v5 kd_M_grow_91 ?_
    obtain ⟨r6, e_r6, hF⟩ := fb_ob hF
    refine fb_callV (As := [.int (((1024 : Int32) * v4) + ((4 : Int32) * (x2 - (12 : Int32)))), .int (4 : Int32), .int v5]) (rest := []) ⟨hx, hb, hml, hown, hts⟩ zM_mv hZ hK hP hD hS hA (c_M_putNumber l dC dI dA a (((1024 : Int32) * v4) + ((4 : Int32) * (x2 - (12 : Int32)))) (4 : Int32) v5 s2 r6 e_r6) (cwV 3 hts (gd_V q_453 ko_M_putNumber) rfl rfl rfl kh_M_putNumber ⟨Nat.le_of_ble_eq_true rfl, Nat.le_of_ble_eq_true rfl⟩) 5 0 rfl rfl rfl rfl hl.1 rfl (Nat.le_of_ble_eq_true rfl) kd_M_grow_92 ⟨Nat.zero_le _, Nat.zero_le _⟩ (fun H locs hP hD hS => ?_)
    refine W.eq (g2 := F0 m 95 ls []) rfl ?_
    exact w_M_grow_95 CX o x1 r6.2 hF H locs hP hD hS ls (lv_sub hl [0, 1] rfl)
def f_M_grow (x1 : Int32) (st : fb_S) : Option (Int32 × fb_S) := (fb_ld (st 10) 64 x1).bind fun v1 => (if v1 = (12 : Int32) then (f_M_take st).bind fun r3 => (fb_st r3.2 11 17216 (((269 : Int32) * x1) + (268 : Int32)) r3.1).bind fun s4 => b_M_grow_31 x1 v1 s4 else b_M_grow_31 x1 v1 st)
set_option maxHeartbeats 4000000 in
set_option maxRecDepth 100000 in
theorem w_M_grow_0 {p : Program} {l : Launch} {e : Env} {s : State} {m : MethodId} {args : Array Value} {below : List Frame} {meth : Method} {c : Code} {A : Nat → Prop} {dC : Nat → ClassId} {dI : Nat → Nat → Nat} {dA : Nat → ClassId} {a : Nat → Nat} (CX : fb_C p s m args meth c kc_M_grow none 3 "FileTreeModel" (dC, dI) vcl (tM dA) A zM) (o : Int32 × fb_S) (x1 : Int32) (st : fb_S) (hF : f_M_grow x1 st = some o) : fb_G p l e (headSpec kw_M_grow rm_M_grow).room s m args below meth c (dC, dI) vcl (tM dA) (wM dA a) A none o.2 0 3 [(0, .ref (a 0)), (1, .int x1)] [] st := by
  intro H locs hP hD hS ls hl
  obtain ⟨hx, hb, hr, hml, hown, hts, hK, hA, hlocks, hZ⟩ := id CX
  unfold f_M_grow at hF
  refine lv_aload_n hx hb kd_M_grow_0 rfl (lv_at hl 0 rfl) ?_
  refine va_get (D := (dC, dI)) (ci := 5) (v := .ref (a 11)) (C := "FileTreeModel") (T := ft_M) (N := 18) hx hb hts fi_M hown hK hP 0 rfl rfl 12 (by decide) (hts _ q_481) (fun _ h9 => h9) rfl kd_M_grow_1 ?_
  refine lv_iload_n hx hb kd_M_grow_4 rfl (lv_at hl 1 rfl) ?_
  obtain ⟨v1, e_v1, hF⟩ := fb_ob hF
  refine fb_iald hx hb hK hP 11 0 rfl rfl e_v1 kd_M_grow_5 ?_
  refine lv_istore_n (lv' := [(2, .int v1), (0, .ref (a 0)), (1, .int x1)]) hx hb kd_M_grow_6 rfl hl (by decide) rfl (fun ls hl => ?_)
  refine lv_iload_n hx hb kd_M_grow_7 rfl (lv_at hl 0 rfl) ?_
  refine lv_bipush (v := 12) hx hb kd_M_grow_8 (by decide) ?_
  refine lv_icmp_ne (tgt := 31) hx hb kd_M_grow_10 (by decide) (fun c2 => ?_) (fun c2 => ?_)
  · rw [if_neg c2] at hF
    exact w_M_grow_31 CX o x1 v1 st hF H locs hP hD hS ls (lv_sub hl [1, 2, 0] rfl)
  · rw [if_pos c2] at hF
    refine lv_aload_n hx hb kd_M_grow_13 rfl (lv_at hl 1 rfl) ?_
    refine va_get (D := (dC, dI)) (ci := 5) (v := .ref (a 12)) (C := "FileTreeModel") (T := ft_M) (N := 18) hx hb hts fi_M hown hK hP 0 rfl rfl 13 (by decide) (hts _ q_482) (fun _ h9 => h9) rfl kd_M_grow_14 ?_
    refine lv_sipush (v := 269) hx hb kd_M_grow_17 (by decide) ?_
    refine lv_iload_n hx hb kd_M_grow_20 rfl (lv_at hl 2 rfl) ?_
    refine lv_imul hx hb kd_M_grow_21 ?_
    refine lv_sipush (v := 268) hx hb kd_M_grow_22 (by decide) ?_
    refine lv_iadd hx hb kd_M_grow_25 ?_
    refine lv_aload_n hx hb kd_M_grow_26 rfl (lv_at hl 1 rfl) ?_
    obtain ⟨r3, e_r3, hF⟩ := fb_ob hF
    refine fb_callV (As := []) (rest := [.int (((269 : Int32) * x1) + (268 : Int32)), .ref (a 12)]) ⟨hx, hb, hml, hown, hts⟩ zM_mv hZ hK hP hD hS hA (c_M_take l dC dI dA a st r3 e_r3) (cwV 0 hts (gd_V q_449 ko_M_take) rfl rfl rfl kh_M_take ⟨Nat.le_of_ble_eq_true rfl, Nat.le_of_ble_eq_true rfl⟩) 5 0 rfl rfl rfl rfl hl.1 rfl (Nat.le_of_ble_eq_true rfl) kd_M_grow_27 ⟨Nat.zero_le _, Nat.zero_le _⟩ (fun H locs hP hD hS => ?_)
    refine W.eq (g2 := F0 m 30 ls [.int r3.1, .int (((269 : Int32) * x1) + (268 : Int32)), .ref (a 12)]) rfl ?_
    obtain ⟨s4, e_s4, hF⟩ := fb_ob hF
    refine fb_iast (wx := (wM dA a)) (k := 11) hx hb hK hP hD hS 12 0 rfl rfl e_s4 (fun _ => rfl) kd_M_grow_30 (fun H locs hP hD hS => ?_)
    exact w_M_grow_31 CX o x1 v1 s4 hF H locs hP hD hS ls (lv_sub hl [1, 2, 0] rfl)
theorem c_M_grow (l : Launch) (dC : Nat → ClassId) (dI : Nat → Nat → Nat) (dA : Nat → ClassId) (a : Nat → Nat) (x1 : Int32) (st : fb_S) (o : Int32 × fb_S) (h : f_M_grow x1 st = some o) : fb_M l ky_M_grow kw_M_grow rm_M_grow (dC, dI) vcl (tM dA) (wM dA a) zM [.ref (a 0), .int x1] none st o.2 := fb_enter (by decide) rfl (Nat.le_of_ble_eq_true rfl) (fun p e s m below meth c A CX hP hD hS ls hl => w_M_grow_0 CX o x1 st h s.heap [] hP hD hS ls hl)
abbrev rm_M_dots : Room := { frames := 0, cells := 0, slots := 0, locals := 0 }
def b_M_dots_24 (k2 : Int32 → Int32 → fb_S → Option (Int32 × fb_S)) (x1 : Int32) (x2 : Int32) (y0 : Int32) (y1 : Int32) (st : fb_S) : Option (Int32 × fb_S) := (fb_st st 13 14 y1 (fb_b y0)).bind fun s1 => k2 x1 (x2 + (1 : Int32)) s1
set_option maxHeartbeats 4000000 in
set_option maxRecDepth 100000 in
theorem w_M_dots_24 {p : Program} {l : Launch} {e : Env} {s : State} {m : MethodId} {args : Array Value} {below : List Frame} {meth : Method} {c : Code} {A : Nat → Prop} {dC : Nat → ClassId} {dI : Nat → Nat → Nat} {dA : Nat → ClassId} {a : Nat → Nat} (CX : fb_C p s m args meth c kc_M_dots none 3 "FileTreeModel" (dC, dI) vcl (tM dA) A zM) (o : Int32 × fb_S) (k2 : Int32 → Int32 → fb_S → Option (Int32 × fb_S)) (hk2 : ∀ (x1 : Int32) (x2 : Int32) (st : fb_S), k2 x1 x2 st = some o → fb_G p l e (headSpec kw_M_dots rm_M_dots).room s m args below meth c (dC, dI) vcl (tM dA) (wM dA a) A none o.2 2 3 [(0, .ref (a 0)), (1, .int x1), (2, .int x2)] [] st) (x1 : Int32) (x2 : Int32) (y0 : Int32) (y1 : Int32) (st : fb_S) (hF : b_M_dots_24 k2 x1 x2 y0 y1 st = some o) : fb_G p l e (headSpec kw_M_dots rm_M_dots).room s m args below meth c (dC, dI) vcl (tM dA) (wM dA a) A none o.2 24 3 [(0, .ref (a 0)), (1, .int x1), (2, .int x2)] [.int y0, .int y1, .ref (a 14)] st := by
  intro H locs hP hD hS ls hl
  obtain ⟨hx, hb, hr, hml, hown, hts, hK, hA, hlocks, hZ⟩ := id CX
  unfold b_M_dots_24 at hF
  obtain ⟨s1, e_s1, hF⟩ := fb_ob hF
  refine fb_bast (wx := (wM dA a)) (k := 13) hx hb hK hP hD hS 14 1 rfl rfl e_s1 (fun _ => rfl) kd_M_dots_24 (fun H locs hP hD hS => ?_)
  refine lv_iinc (v := x2 + (1 : Int32)) (lv' := [(2, .int (x2 + (1 : Int32))), (0, .ref (a 0)), (1, .int x1)]) hx hb kd_M_dots_25 hl (k := 2) rfl rfl (by decide) rfl (fun ls hl => ?_)
  refine lv_goto (tgt := 2) hx hb kd_M_dots_28 (by decide) ?_
  exact hk2 x1 (x2 + (1 : Int32)) s1 hF H locs hP hD hS ls (lv_sub hl [1, 2, 0] rfl)
def b_M_dots_2 (k2 : Int32 → Int32 → fb_S → Option (Int32 × fb_S)) (x1 : Int32) (x2 : Int32) (st : fb_S) : Option (Int32 × fb_S) := (if (14 : Int32) ≤ x2 then some (0, st) else (if x1 ≤ x2 then b_M_dots_24 k2 x1 x2 (0 : Int32) x2 st else b_M_dots_24 k2 x1 x2 (46 : Int32) x2 st))
set_option maxHeartbeats 4000000 in
set_option maxRecDepth 100000 in
theorem w_M_dots_2 {p : Program} {l : Launch} {e : Env} {s : State} {m : MethodId} {args : Array Value} {below : List Frame} {meth : Method} {c : Code} {A : Nat → Prop} {dC : Nat → ClassId} {dI : Nat → Nat → Nat} {dA : Nat → ClassId} {a : Nat → Nat} (CX : fb_C p s m args meth c kc_M_dots none 3 "FileTreeModel" (dC, dI) vcl (tM dA) A zM) (o : Int32 × fb_S) (k2 : Int32 → Int32 → fb_S → Option (Int32 × fb_S)) (hk2 : ∀ (x1 : Int32) (x2 : Int32) (st : fb_S), k2 x1 x2 st = some o → fb_G p l e (headSpec kw_M_dots rm_M_dots).room s m args below meth c (dC, dI) vcl (tM dA) (wM dA a) A none o.2 2 3 [(0, .ref (a 0)), (1, .int x1), (2, .int x2)] [] st) (x1 : Int32) (x2 : Int32) (st : fb_S) (hF : b_M_dots_2 k2 x1 x2 st = some o) : fb_G p l e (headSpec kw_M_dots rm_M_dots).room s m args below meth c (dC, dI) vcl (tM dA) (wM dA a) A none o.2 2 3 [(0, .ref (a 0)), (1, .int x1), (2, .int x2)] [] st := by
  intro H locs hP hD hS ls hl
  obtain ⟨hx, hb, hr, hml, hown, hts, hK, hA, hlocks, hZ⟩ := id CX
  unfold b_M_dots_2 at hF
  refine lv_iload_n hx hb kd_M_dots_2 rfl (lv_at hl 2 rfl) ?_
  refine lv_bipush (v := 14) hx hb kd_M_dots_3 (by decide) ?_
  refine lv_icmp_ge (tgt := 31) hx hb kd_M_dots_5 (by decide) (fun c1 => ?_) (fun c1 => ?_)
  · rw [if_pos c1] at hF
    exact fb_rv (o := o) hx hb hr hlocks hK hP hD hS hF kd_M_dots_31
  · rw [if_neg c1] at hF
    refine lv_aload_n hx hb kd_M_dots_8 rfl (lv_at hl 0 rfl) ?_
    refine va_get (D := (dC, dI)) (ci := 5) (v := .ref (a 14)) (C := "FileTreeModel") (T := ft_M) (N := 18) hx hb hts fi_M hown hK hP 0 rfl rfl 17 (by decide) (hts _ q_486) (fun _ h9 => h9) rfl kd_M_dots_9 ?_
    refine lv_iload_n hx hb kd_M_dots_12 rfl (lv_at hl 2 rfl) ?_
    refine lv_iload_n hx hb kd_M_dots_13 rfl (lv_at hl 2 rfl) ?_
    refine lv_iload_n hx hb kd_M_dots_14 rfl (lv_at hl 1 rfl) ?_
    refine lv_icmp_ge (tgt := 23) hx hb kd_M_dots_15 (by decide) (fun c2 => ?_) (fun c2 => ?_)
    · rw [if_pos c2] at hF
      refine lv_iconst (v := 0) hx hb kd_M_dots_23 (by decide) ?_
      exact w_M_dots_24 CX o k2 hk2 x1 x2 (0 : Int32) x2 st hF H locs hP hD hS ls (lv_sub hl [0, 1, 2] rfl)
    · rw [if_neg c2] at hF
      refine lv_bipush (v := 46) hx hb kd_M_dots_18 (by decide) ?_
      refine lv_goto (tgt := 24) hx hb kd_M_dots_20 (by decide) ?_
      exact w_M_dots_24 CX o k2 hk2 x1 x2 (46 : Int32) x2 st hF H locs hP hD hS ls (lv_sub hl [0, 1, 2] rfl)
def l_M_dots_2 : Nat → Int32 → Int32 → fb_S → Option (Int32 × fb_S)
  | 0 => fun _ _ _ => none
  | n + 1 => b_M_dots_2 (l_M_dots_2 n)
theorem v_M_dots_2 {p : Program} {l : Launch} {e : Env} {s : State} {m : MethodId} {args : Array Value} {below : List Frame} {meth : Method} {c : Code} {A : Nat → Prop} {dC : Nat → ClassId} {dI : Nat → Nat → Nat} {dA : Nat → ClassId} {a : Nat → Nat} (CX : fb_C p s m args meth c kc_M_dots none 3 "FileTreeModel" (dC, dI) vcl (tM dA) A zM) (o : Int32 × fb_S) (n : Nat) : ∀ (x1 : Int32) (x2 : Int32) (st : fb_S), l_M_dots_2 n x1 x2 st = some o → fb_G p l e (headSpec kw_M_dots rm_M_dots).room s m args below meth c (dC, dI) vcl (tM dA) (wM dA a) A none o.2 2 3 [(0, .ref (a 0)), (1, .int x1), (2, .int x2)] [] st := by
  induction n with
  | zero => intro x1 x2 st hF; cases hF
  | succ n ih => intro x1 x2 st hF; exact w_M_dots_2 CX o (l_M_dots_2 n) ih x1 x2 st hF
def f_M_dots (x1 : Int32) (st : fb_S) : Option (Int32 × fb_S) := l_M_dots_2 fb_n x1 (0 : Int32) st
set_option maxHeartbeats 4000000 in
set_option maxRecDepth 100000 in
theorem w_M_dots_0 {p : Program} {l : Launch} {e : Env} {s : State} {m : MethodId} {args : Array Value} {below : List Frame} {meth : Method} {c : Code} {A : Nat → Prop} {dC : Nat → ClassId} {dI : Nat → Nat → Nat} {dA : Nat → ClassId} {a : Nat → Nat} (CX : fb_C p s m args meth c kc_M_dots none 3 "FileTreeModel" (dC, dI) vcl (tM dA) A zM) (o : Int32 × fb_S) (x1 : Int32) (st : fb_S) (hF : f_M_dots x1 st = some o) : fb_G p l e (headSpec kw_M_dots rm_M_dots).room s m args below meth c (dC, dI) vcl (tM dA) (wM dA a) A none o.2 0 3 [(0, .ref (a 0)), (1, .int x1)] [] st := by
  intro H locs hP hD hS ls hl
  obtain ⟨hx, hb, hr, hml, hown, hts, hK, hA, hlocks, hZ⟩ := id CX
  unfold f_M_dots at hF
  refine lv_iconst (v := 0) hx hb kd_M_dots_0 (by decide) ?_
  refine lv_istore_n (lv' := [(2, .int (0 : Int32)), (0, .ref (a 0)), (1, .int x1)]) hx hb kd_M_dots_1 rfl hl (by decide) rfl (fun ls hl => ?_)
  exact v_M_dots_2 CX o fb_n x1 (0 : Int32) st hF H locs hP hD hS ls (lv_sub hl [1, 2, 0] rfl)
theorem c_M_dots (l : Launch) (dC : Nat → ClassId) (dI : Nat → Nat → Nat) (dA : Nat → ClassId) (a : Nat → Nat) (x1 : Int32) (st : fb_S) (o : Int32 × fb_S) (h : f_M_dots x1 st = some o) : fb_M l ky_M_dots kw_M_dots rm_M_dots (dC, dI) vcl (tM dA) (wM dA a) zM [.ref (a 0), .int x1] none st o.2 := fb_enter (by decide) rfl (Nat.le_of_ble_eq_true rfl) (fun p e s m below meth c A CX hP hD hS ls hl => w_M_dots_0 CX o x1 st h s.heap [] hP hD hS ls hl)
abbrev rm_M_place : Room := { frames := 0, cells := 0, slots := 0, locals := 0 }
def f_M_place (x1 : Int32) (x2 : Int32) (st : fb_S) : Option (Int32 × fb_S) := (fb_ld (st 11) 17216 (((269 : Int32) * x1) + (x2 / (1024 : Int32)))).bind fun v1 => some (((1024 : Int32) * v1) + (x2 - x2 / (1024 : Int32) * (1024 : Int32)), st)
set_option maxHeartbeats 4000000 in
set_option maxRecDepth 100000 in
theorem w_M_place_0 {p : Program} {l : Launch} {e : Env} {s : State} {m : MethodId} {args : Array Value} {below : List Frame} {meth : Method} {c : Code} {A : Nat → Prop} {dC : Nat → ClassId} {dI : Nat → Nat → Nat} {dA : Nat → ClassId} {a : Nat → Nat} (CX : fb_C p s m args meth c kc_M_place (some .int) 3 "FileTreeModel" (dC, dI) vcl (tM dA) A zM) (o : Int32 × fb_S) (x1 : Int32) (x2 : Int32) (st : fb_S) (hF : f_M_place x1 x2 st = some o) : fb_G p l e (headSpec kw_M_place rm_M_place).room s m args below meth c (dC, dI) vcl (tM dA) (wM dA a) A (some (.int o.1)) o.2 0 3 [(0, .ref (a 0)), (1, .int x1), (2, .int x2)] [] st := by
  intro H locs hP hD hS ls hl
  obtain ⟨hx, hb, hr, hml, hown, hts, hK, hA, hlocks, hZ⟩ := id CX
  unfold f_M_place at hF
  refine lv_sipush (v := 1024) hx hb kd_M_place_0 (by decide) ?_
  refine lv_aload_n hx hb kd_M_place_3 rfl (lv_at hl 0 rfl) ?_
  refine va_get (D := (dC, dI)) (ci := 5) (v := .ref (a 12)) (C := "FileTreeModel") (T := ft_M) (N := 18) hx hb hts fi_M hown hK hP 0 rfl rfl 13 (by decide) (hts _ q_482) (fun _ h9 => h9) rfl kd_M_place_4 ?_
  refine lv_sipush (v := 269) hx hb kd_M_place_7 (by decide) ?_
  refine lv_iload_n hx hb kd_M_place_10 rfl (lv_at hl 1 rfl) ?_
  refine lv_imul hx hb kd_M_place_11 ?_
  refine lv_iload_n hx hb kd_M_place_12 rfl (lv_at hl 2 rfl) ?_
  refine lv_sipush (v := 1024) hx hb kd_M_place_13 (by decide) ?_
  refine lv_idiv hx hb kd_M_place_16 (by decide) ?_
  refine lv_iadd hx hb kd_M_place_17 ?_
  obtain ⟨v1, e_v1, hF⟩ := fb_ob hF
  refine fb_iald hx hb hK hP 12 0 rfl rfl e_v1 kd_M_place_18 ?_
  refine lv_imul hx hb kd_M_place_19 ?_
  refine lv_iload_n hx hb kd_M_place_20 rfl (lv_at hl 2 rfl) ?_
  refine lv_sipush (v := 1024) hx hb kd_M_place_21 (by decide) ?_
  refine lv_irem hx hb kd_M_place_24 (by decide) ?_
  refine lv_iadd hx hb kd_M_place_25 ?_
  exact fb_ri (o := o) hx hb hr hlocks hK hP hD hS hF kd_M_place_26
theorem c_M_place (l : Launch) (dC : Nat → ClassId) (dI : Nat → Nat → Nat) (dA : Nat → ClassId) (a : Nat → Nat) (x1 : Int32) (x2 : Int32) (st : fb_S) (o : Int32 × fb_S) (h : f_M_place x1 x2 st = some o) : fb_M l ky_M_place kw_M_place rm_M_place (dC, dI) vcl (tM dA) (wM dA a) zM [.ref (a 0), .int x1, .int x2] (some (.int o.1)) st o.2 := fb_enter (by decide) rfl (Nat.le_of_ble_eq_true rfl) (fun p e s m below meth c A CX hP hD hS ls hl => w_M_place_0 CX o x1 x2 st h s.heap [] hP hD hS ls hl)
abbrev rm_M_lay : Room := { frames := 1, cells := 0, slots := 0, locals := 24 }
def b_M_lay_19 (k19 : Int32 → Int32 → fb_S → Option (Int32 × fb_S)) (x4 : Int32) (x5 : Int32) (st : fb_S) : Option (Int32 × fb_S) := (if (14 : Int32) ≤ x5 then some (0, st) else (fb_ld (st 13) 14 x5).bind fun v2 => (fb_st st 2 524288 ((x4 + (2 : Int32)) + x5) (fb_b v2)).bind fun s3 => k19 x4 (x5 + (1 : Int32)) s3)
set_option maxHeartbeats 4000000 in
set_option maxRecDepth 100000 in
theorem w_M_lay_19 {p : Program} {l : Launch} {e : Env} {s : State} {m : MethodId} {args : Array Value} {below : List Frame} {meth : Method} {c : Code} {A : Nat → Prop} {dC : Nat → ClassId} {dI : Nat → Nat → Nat} {dA : Nat → ClassId} {a : Nat → Nat} (CX : fb_C p s m args meth c kc_M_lay none 6 "FileTreeModel" (dC, dI) vcl (tM dA) A zM) (o : Int32 × fb_S) (k19 : Int32 → Int32 → fb_S → Option (Int32 × fb_S)) (hk19 : ∀ (x4 : Int32) (x5 : Int32) (st : fb_S), k19 x4 x5 st = some o → fb_G p l e (headSpec kw_M_lay rm_M_lay).room s m args below meth c (dC, dI) vcl (tM dA) (wM dA a) A none o.2 19 6 [(0, .ref (a 0)), (4, .int x4), (5, .int x5)] [] st) (x4 : Int32) (x5 : Int32) (st : fb_S) (hF : b_M_lay_19 k19 x4 x5 st = some o) : fb_G p l e (headSpec kw_M_lay rm_M_lay).room s m args below meth c (dC, dI) vcl (tM dA) (wM dA a) A none o.2 19 6 [(0, .ref (a 0)), (4, .int x4), (5, .int x5)] [] st := by
  intro H locs hP hD hS ls hl
  obtain ⟨hx, hb, hr, hml, hown, hts, hK, hA, hlocks, hZ⟩ := id CX
  unfold b_M_lay_19 at hF
  refine lv_iload hx hb kd_M_lay_19 (lv_at hl 2 rfl) ?_
  refine lv_bipush (v := 14) hx hb kd_M_lay_21 (by decide) ?_
  refine lv_icmp_ge (tgt := 51) hx hb kd_M_lay_23 (by decide) (fun c1 => ?_) (fun c1 => ?_)
  · rw [if_pos c1] at hF
    exact fb_rv (o := o) hx hb hr hlocks hK hP hD hS hF kd_M_lay_51
  · rw [if_neg c1] at hF
    refine lv_aload_n hx hb kd_M_lay_26 rfl (lv_at hl 0 rfl) ?_
    refine va_get (D := (dC, dI)) (ci := 5) (v := .ref (a 3)) (C := "FileTreeModel") (T := ft_M) (N := 18) hx hb hts fi_M hown hK hP 0 rfl rfl 4 (by decide) (hts _ q_473) (fun _ h9 => h9) rfl kd_M_lay_27 ?_
    refine lv_iload hx hb kd_M_lay_30 (lv_at hl 1 rfl) ?_
    refine lv_iconst (v := 2) hx hb kd_M_lay_32 (by decide) ?_
    refine lv_iadd hx hb kd_M_lay_33 ?_
    refine lv_iload hx hb kd_M_lay_34 (lv_at hl 2 rfl) ?_
    refine lv_iadd hx hb kd_M_lay_36 ?_
    refine lv_aload_n hx hb kd_M_lay_37 rfl (lv_at hl 0 rfl) ?_
    refine va_get (D := (dC, dI)) (ci := 5) (v := .ref (a 14)) (C := "FileTreeModel") (T := ft_M) (N := 18) hx hb hts fi_M hown hK hP 0 rfl rfl 17 (by decide) (hts _ q_486) (fun _ h9 => h9) rfl kd_M_lay_38 ?_
    refine lv_iload hx hb kd_M_lay_41 (lv_at hl 2 rfl) ?_
    obtain ⟨v2, e_v2, hF⟩ := fb_ob hF
    refine fb_bald hx hb hK hP 14 1 rfl rfl e_v2 kd_M_lay_43 ?_
    obtain ⟨s3, e_s3, hF⟩ := fb_ob hF
    refine fb_bast (wx := (wM dA a)) (k := 2) hx hb hK hP hD hS 3 1 rfl rfl e_s3 (fun _ => rfl) kd_M_lay_44 (fun H locs hP hD hS => ?_)
    refine lv_iinc (v := x5 + (1 : Int32)) (lv' := [(5, .int (x5 + (1 : Int32))), (0, .ref (a 0)), (4, .int x4)]) hx hb kd_M_lay_45 hl (k := 2) rfl rfl (by decide) rfl (fun ls hl => ?_)
    refine lv_goto (tgt := 19) hx hb kd_M_lay_48 (by decide) ?_
    exact hk19 x4 (x5 + (1 : Int32)) s3 hF H locs hP hD hS ls (lv_sub hl [1, 2, 0] rfl)
def l_M_lay_19 : Nat → Int32 → Int32 → fb_S → Option (Int32 × fb_S)
  | 0 => fun _ _ _ => none
  | n + 1 => b_M_lay_19 (l_M_lay_19 n)
theorem v_M_lay_19 {p : Program} {l : Launch} {e : Env} {s : State} {m : MethodId} {args : Array Value} {below : List Frame} {meth : Method} {c : Code} {A : Nat → Prop} {dC : Nat → ClassId} {dI : Nat → Nat → Nat} {dA : Nat → ClassId} {a : Nat → Nat} (CX : fb_C p s m args meth c kc_M_lay none 6 "FileTreeModel" (dC, dI) vcl (tM dA) A zM) (o : Int32 × fb_S) (n : Nat) : ∀ (x4 : Int32) (x5 : Int32) (st : fb_S), l_M_lay_19 n x4 x5 st = some o → fb_G p l e (headSpec kw_M_lay rm_M_lay).room s m args below meth c (dC, dI) vcl (tM dA) (wM dA a) A none o.2 19 6 [(0, .ref (a 0)), (4, .int x4), (5, .int x5)] [] st := by
  induction n with
  | zero => intro x4 x5 st hF; cases hF
  | succ n ih => intro x4 x5 st hF; exact w_M_lay_19 CX o (l_M_lay_19 n) ih x4 x5 st hF
def f_M_lay (x1 : Int32) (x2 : Int32) (x3 : Int32) (st : fb_S) : Option (Int32 × fb_S) := (f_M_place x1 x2 st).bind fun r1 => (f_M_putNumber r1.1 (2 : Int32) x3 r1.2).bind fun r2 => l_M_lay_19 fb_n r1.1 (0 : Int32) r2.2
set_option maxHeartbeats 4000000 in
set_option maxRecDepth 100000 in
theorem w_M_lay_0 {p : Program} {l : Launch} {e : Env} {s : State} {m : MethodId} {args : Array Value} {below : List Frame} {meth : Method} {c : Code} {A : Nat → Prop} {dC : Nat → ClassId} {dI : Nat → Nat → Nat} {dA : Nat → ClassId} {a : Nat → Nat} (CX : fb_C p s m args meth c kc_M_lay none 6 "FileTreeModel" (dC, dI) vcl (tM dA) A zM) (o : Int32 × fb_S) (x1 : Int32) (x2 : Int32) (x3 : Int32) (st : fb_S) (hF : f_M_lay x1 x2 x3 st = some o) : fb_G p l e (headSpec kw_M_lay rm_M_lay).room s m args below meth c (dC, dI) vcl (tM dA) (wM dA a) A none o.2 0 6 [(0, .ref (a 0)), (1, .int x1), (2, .int x2), (3, .int x3)] [] st := by
  intro H locs hP hD hS ls hl
  obtain ⟨hx, hb, hr, hml, hown, hts, hK, hA, hlocks, hZ⟩ := id CX
  unfold f_M_lay at hF
  refine lv_aload_n hx hb kd_M_lay_0 rfl (lv_at hl 0 rfl) ?_
  refine lv_iload_n hx hb kd_M_lay_1 rfl (lv_at hl 1 rfl) ?_
  refine lv_iload_n hx hb kd_M_lay_2 rfl (lv_at hl 2 rfl) ?_
  obtain ⟨r1, e_r1, hF⟩ := fb_ob hF
  refine fb_callV (As := [.int x1, .int x2]) (rest := []) ⟨hx, hb, hml, hown, hts⟩ zM_mv hZ hK hP hD hS hA (c_M_place l dC dI dA a x1 x2 st r1 e_r1) (cwV 2 hts (gd_V q_465 ko_M_place) rfl rfl rfl kh_M_place ⟨Nat.le_of_ble_eq_true rfl, Nat.le_of_ble_eq_true rfl⟩) 5 0 rfl rfl rfl rfl hl.1 rfl (Nat.le_of_ble_eq_true rfl) kd_M_lay_3 ⟨Nat.zero_le _, Nat.zero_le _⟩ (fun H locs hP hD hS => ?_)
  refine W.eq (g2 := F0 m 6 ls [.int r1.1]) rfl ?_
  refine lv_istore (lv' := [(4, .int r1.1), (0, .ref (a 0)), (1, .int x1), (2, .int x2), (3, .int x3)]) hx hb kd_M_lay_6 hl (by decide) rfl (fun ls hl => ?_)
  refine lv_aload_n hx hb kd_M_lay_8 rfl (lv_at hl 1 rfl) ?_
  refine lv_iload hx hb kd_M_lay_9 (lv_at hl 0 rfl) ?_
  refine lv_iconst (v := 2) hx hb kd_M_lay_11 (by decide) ?_
  refine lv_iload_n hx hb kd_M_lay_12 rfl (lv_at hl 4 rfl) ?_
  obtain ⟨r2, e_r2, hF⟩ := fb_ob hF
  refine fb_callV (As := [.int r1.1, .int (2 : Int32), .int x3]) (rest := []) ⟨hx, hb, hml, hown, hts⟩ zM_mv hZ hK hP hD hS hA (c_M_putNumber l dC dI dA a r1.1 (2 : Int32) x3 r1.2 r2 e_r2) (cwV 3 hts (gd_V q_453 ko_M_putNumber) rfl rfl rfl kh_M_putNumber ⟨Nat.le_of_ble_eq_true rfl, Nat.le_of_ble_eq_true rfl⟩) 5 0 rfl rfl rfl rfl hl.1 rfl (Nat.le_of_ble_eq_true rfl) kd_M_lay_13 ⟨Nat.zero_le _, Nat.zero_le _⟩ (fun H locs hP hD hS => ?_)
  refine W.eq (g2 := F0 m 16 ls []) rfl ?_
  refine lv_iconst (v := 0) hx hb kd_M_lay_16 (by decide) ?_
  refine lv_istore (lv' := [(5, .int (0 : Int32)), (4, .int r1.1), (0, .ref (a 0)), (1, .int x1), (2, .int x2), (3, .int x3)]) hx hb kd_M_lay_17 hl (by decide) rfl (fun ls hl => ?_)
  exact v_M_lay_19 CX o fb_n r1.1 (0 : Int32) r2.2 hF H locs hP hD hS ls (lv_sub hl [2, 1, 0] rfl)
theorem c_M_lay (l : Launch) (dC : Nat → ClassId) (dI : Nat → Nat → Nat) (dA : Nat → ClassId) (a : Nat → Nat) (x1 : Int32) (x2 : Int32) (x3 : Int32) (st : fb_S) (o : Int32 × fb_S) (h : f_M_lay x1 x2 x3 st = some o) : fb_M l ky_M_lay kw_M_lay rm_M_lay (dC, dI) vcl (tM dA) (wM dA a) zM [.ref (a 0), .int x1, .int x2, .int x3] none st o.2 := fb_enter (by decide) rfl (Nat.le_of_ble_eq_true rfl) (fun p e s m below meth c A CX hP hD hS ls hl => w_M_lay_0 CX o x1 x2 x3 st h s.heap [] hP hD hS ls hl)
abbrev rm_M_begins : Room := { frames := 2, cells := 0, slots := 0, locals := 49 }
def f_M_begins (x1 : Int32) (x2 : Int32) (st : fb_S) : Option (Int32 × fb_S) := (f_M_grow x1 st).bind fun r1 => (f_M_dots (1 : Int32) r1.2).bind fun r2 => (f_M_lay x1 (0 : Int32) x1 r2.2).bind fun r3 => (f_M_dots (2 : Int32) r3.2).bind fun r4 => (f_M_lay x1 (16 : Int32) x2 r4.2).bind fun r5 => (fb_st r5.2 8 64 x1 (32 : Int32)).bind fun s6 => (fb_ld (s6 7) 64 x2).bind fun v7 => (fb_st s6 7 64 x2 (v7 + (1 : Int32))).bind fun s8 => some (0, s8)
set_option maxHeartbeats 4000000 in
set_option maxRecDepth 100000 in
theorem w_M_begins_0 {p : Program} {l : Launch} {e : Env} {s : State} {m : MethodId} {args : Array Value} {below : List Frame} {meth : Method} {c : Code} {A : Nat → Prop} {dC : Nat → ClassId} {dI : Nat → Nat → Nat} {dA : Nat → ClassId} {a : Nat → Nat} (CX : fb_C p s m args meth c kc_M_begins none 3 "FileTreeModel" (dC, dI) vcl (tM dA) A zM) (o : Int32 × fb_S) (x1 : Int32) (x2 : Int32) (st : fb_S) (hF : f_M_begins x1 x2 st = some o) : fb_G p l e (headSpec kw_M_begins rm_M_begins).room s m args below meth c (dC, dI) vcl (tM dA) (wM dA a) A none o.2 0 3 [(0, .ref (a 0)), (1, .int x1), (2, .int x2)] [] st := by
  intro H locs hP hD hS ls hl
  obtain ⟨hx, hb, hr, hml, hown, hts, hK, hA, hlocks, hZ⟩ := id CX
  unfold f_M_begins at hF
  refine lv_aload_n hx hb kd_M_begins_0 rfl (lv_at hl 0 rfl) ?_
  refine lv_iload_n hx hb kd_M_begins_1 rfl (lv_at hl 1 rfl) ?_
  obtain ⟨r1, e_r1, hF⟩ := fb_ob hF
  refine fb_callV (As := [.int x1]) (rest := []) ⟨hx, hb, hml, hown, hts⟩ zM_mv hZ hK hP hD hS hA (c_M_grow l dC dI dA a x1 st r1 e_r1) (cwV 1 hts (gd_V q_445 ko_M_grow) rfl rfl rfl kh_M_grow ⟨Nat.le_of_ble_eq_true rfl, Nat.le_of_ble_eq_true rfl⟩) 5 0 rfl rfl rfl rfl hl.1 rfl (Nat.le_of_ble_eq_true rfl) kd_M_begins_2 ⟨Nat.zero_le _, Nat.zero_le _⟩ (fun H locs hP hD hS => ?_)
  refine W.eq (g2 := F0 m 5 ls []) rfl ?_
  refine lv_aload_n hx hb kd_M_begins_5 rfl (lv_at hl 0 rfl) ?_
  refine lv_iconst (v := 1) hx hb kd_M_begins_6 (by decide) ?_
  obtain ⟨r2, e_r2, hF⟩ := fb_ob hF
  refine fb_callV (As := [.int (1 : Int32)]) (rest := []) ⟨hx, hb, hml, hown, hts⟩ zM_mv hZ hK hP hD hS hA (c_M_dots l dC dI dA a (1 : Int32) r1.2 r2 e_r2) (cwV 1 hts (gd_V q_457 ko_M_dots) rfl rfl rfl kh_M_dots ⟨Nat.le_of_ble_eq_true rfl, Nat.le_of_ble_eq_true rfl⟩) 5 0 rfl rfl rfl rfl hl.1 rfl (Nat.le_of_ble_eq_true rfl) kd_M_begins_7 ⟨Nat.zero_le _, Nat.zero_le _⟩ (fun H locs hP hD hS => ?_)
  refine W.eq (g2 := F0 m 10 ls []) rfl ?_
  refine lv_aload_n hx hb kd_M_begins_10 rfl (lv_at hl 0 rfl) ?_
  refine lv_iload_n hx hb kd_M_begins_11 rfl (lv_at hl 1 rfl) ?_
  refine lv_iconst (v := 0) hx hb kd_M_begins_12 (by decide) ?_
  refine lv_iload_n hx hb kd_M_begins_13 rfl (lv_at hl 1 rfl) ?_
  obtain ⟨r3, e_r3, hF⟩ := fb_ob hF
  refine fb_callV (As := [.int x1, .int (0 : Int32), .int x1]) (rest := []) ⟨hx, hb, hml, hown, hts⟩ zM_mv hZ hK hP hD hS hA (c_M_lay l dC dI dA a x1 (0 : Int32) x1 r2.2 r3 e_r3) (cwV 3 hts (gd_V q_461 ko_M_lay) rfl rfl rfl kh_M_lay ⟨Nat.le_of_ble_eq_true rfl, Nat.le_of_ble_eq_true rfl⟩) 5 0 rfl rfl rfl rfl hl.1 rfl (Nat.le_of_ble_eq_true rfl) kd_M_begins_14 ⟨Nat.zero_le _, Nat.zero_le _⟩ (fun H locs hP hD hS => ?_)
  refine W.eq (g2 := F0 m 17 ls []) rfl ?_
  refine lv_aload_n hx hb kd_M_begins_17 rfl (lv_at hl 0 rfl) ?_
  refine lv_iconst (v := 2) hx hb kd_M_begins_18 (by decide) ?_
  obtain ⟨r4, e_r4, hF⟩ := fb_ob hF
  refine fb_callV (As := [.int (2 : Int32)]) (rest := []) ⟨hx, hb, hml, hown, hts⟩ zM_mv hZ hK hP hD hS hA (c_M_dots l dC dI dA a (2 : Int32) r3.2 r4 e_r4) (cwV 1 hts (gd_V q_457 ko_M_dots) rfl rfl rfl kh_M_dots ⟨Nat.le_of_ble_eq_true rfl, Nat.le_of_ble_eq_true rfl⟩) 5 0 rfl rfl rfl rfl hl.1 rfl (Nat.le_of_ble_eq_true rfl) kd_M_begins_19 ⟨Nat.zero_le _, Nat.zero_le _⟩ (fun H locs hP hD hS => ?_)
  refine W.eq (g2 := F0 m 22 ls []) rfl ?_
  refine lv_aload_n hx hb kd_M_begins_22 rfl (lv_at hl 0 rfl) ?_
  refine lv_iload_n hx hb kd_M_begins_23 rfl (lv_at hl 1 rfl) ?_
  refine lv_bipush (v := 16) hx hb kd_M_begins_24 (by decide) ?_
  refine lv_iload_n hx hb kd_M_begins_26 rfl (lv_at hl 2 rfl) ?_
  obtain ⟨r5, e_r5, hF⟩ := fb_ob hF
  refine fb_callV (As := [.int x1, .int (16 : Int32), .int x2]) (rest := []) ⟨hx, hb, hml, hown, hts⟩ zM_mv hZ hK hP hD hS hA (c_M_lay l dC dI dA a x1 (16 : Int32) x2 r4.2 r5 e_r5) (cwV 3 hts (gd_V q_461 ko_M_lay) rfl rfl rfl kh_M_lay ⟨Nat.le_of_ble_eq_true rfl, Nat.le_of_ble_eq_true rfl⟩) 5 0 rfl rfl rfl rfl hl.1 rfl (Nat.le_of_ble_eq_true rfl) kd_M_begins_27 ⟨Nat.zero_le _, Nat.zero_le _⟩ (fun H locs hP hD hS => ?_)
  refine W.eq (g2 := F0 m 30 ls []) rfl ?_
  refine lv_aload_n hx hb kd_M_begins_30 rfl (lv_at hl 0 rfl) ?_
  refine va_get (D := (dC, dI)) (ci := 5) (v := .ref (a 9)) (C := "FileTreeModel") (T := ft_M) (N := 18) hx hb hts fi_M hown hK hP 0 rfl rfl 10 (by decide) (hts _ q_479) (fun _ h9 => h9) rfl kd_M_begins_31 ?_
  refine lv_iload_n hx hb kd_M_begins_34 rfl (lv_at hl 1 rfl) ?_
  refine lv_bipush (v := 32) hx hb kd_M_begins_35 (by decide) ?_
  obtain ⟨s6, e_s6, hF⟩ := fb_ob hF
  refine fb_iast (wx := (wM dA a)) (k := 8) hx hb hK hP hD hS 9 0 rfl rfl e_s6 (fun _ => rfl) kd_M_begins_37 (fun H locs hP hD hS => ?_)
  refine lv_aload_n hx hb kd_M_begins_38 rfl (lv_at hl 0 rfl) ?_
  refine va_get (D := (dC, dI)) (ci := 5) (v := .ref (a 8)) (C := "FileTreeModel") (T := ft_M) (N := 18) hx hb hts fi_M hown hK hP 0 rfl rfl 9 (by decide) (hts _ q_478) (fun _ h9 => h9) rfl kd_M_begins_39 ?_
  refine lv_iload_n hx hb kd_M_begins_42 rfl (lv_at hl 2 rfl) ?_
  refine lv_dup2_11 hx hb kd_M_begins_43 rfl rfl ?_
  obtain ⟨v7, e_v7, hF⟩ := fb_ob hF
  refine fb_iald hx hb hK hP 8 0 rfl rfl e_v7 kd_M_begins_44 ?_
  refine lv_iconst (v := 1) hx hb kd_M_begins_45 (by decide) ?_
  refine lv_iadd hx hb kd_M_begins_46 ?_
  obtain ⟨s8, e_s8, hF⟩ := fb_ob hF
  refine fb_iast (wx := (wM dA a)) (k := 7) hx hb hK hP hD hS 8 0 rfl rfl e_s8 (fun _ => rfl) kd_M_begins_47 (fun H locs hP hD hS => ?_)
  exact fb_rv (o := o) hx hb hr hlocks hK hP hD hS hF kd_M_begins_48
theorem c_M_begins (l : Launch) (dC : Nat → ClassId) (dI : Nat → Nat → Nat) (dA : Nat → ClassId) (a : Nat → Nat) (x1 : Int32) (x2 : Int32) (st : fb_S) (o : Int32 × fb_S) (h : f_M_begins x1 x2 st = some o) : fb_M l ky_M_begins kw_M_begins rm_M_begins (dC, dI) vcl (tM dA) (wM dA a) zM [.ref (a 0), .int x1, .int x2] none st o.2 := fb_enter (by decide) rfl (Nat.le_of_ble_eq_true rfl) (fun p e s m below meth c A CX hP hD hS ls hl => w_M_begins_0 CX o x1 x2 st h s.heap [] hP hD hS ls hl)
