abbrev rm_M_write : Room := { frames := 0, cells := 0, slots := 0, locals := 0 }
def b_M_write_108 (k62 : Int64 → Int32 → fb_S → Option (Int32 × fb_S)) (x1 : Int64) (x4 : Int32) (st : fb_S) : Option (Int32 × fb_S) := k62 x1 (x4 + (-1 : Int32)) st
set_option maxHeartbeats 4000000 in
set_option maxRecDepth 100000 in
theorem w_M_write_108 {p : Program} {l : Launch} {e : Env} {s : State} {m : MethodId} {args : Array Value} {below : List Frame} {meth : Method} {c : Code} {A : Nat → Prop} {dC : Nat → ClassId} {dI : Nat → Nat → Nat} {dA : Nat → ClassId} {a : Nat → Nat} (CX : fb_C p s m args meth c kc_M_write (some .boolean) 6 "FileTreeModel" (dC, dI) vcl (tM dA) A zM) (o : Int32 × fb_S) (k62 : Int64 → Int32 → fb_S → Option (Int32 × fb_S)) (hk62 : ∀ (x1 : Int64) (x4 : Int32) (st : fb_S), k62 x1 x4 st = some o → fb_G p l e (headSpec kw_M_write rm_M_write).room s m args below meth c (dC, dI) vcl (tM dA) (wM dA a) A (some (.int o.1)) o.2 62 6 [(0, .ref (a 0)), (1, .long x1), (4, .int x4)] [] st) (x1 : Int64) (x4 : Int32) (st : fb_S) (hF : b_M_write_108 k62 x1 x4 st = some o) : fb_G p l e (headSpec kw_M_write rm_M_write).room s m args below meth c (dC, dI) vcl (tM dA) (wM dA a) A (some (.int o.1)) o.2 108 6 [(0, .ref (a 0)), (1, .long x1), (4, .int x4)] [] st := by
  intro H locs hP hD hS ls hl
  obtain ⟨hx, hb, hr, hml, hown, hts, hK, hA, hlocks, hZ⟩ := id CX
  unfold b_M_write_108 at hF
  refine lv_iinc (v := x4 + (-1 : Int32)) (lv' := [(4, .int (x4 + (-1 : Int32))), (0, .ref (a 0)), (1, .long x1)]) hx hb kd_M_write_108 hl (k := 2) rfl rfl (by decide) rfl (fun ls hl => ?_)
  refine lv_goto (tgt := 62) hx hb kd_M_write_111 (by decide) ?_
  exact hk62 x1 (x4 + (-1 : Int32)) st hF H locs hP hD hS ls (lv_sub hl [1, 2, 0] rfl)
def b_M_write_62 (k62 : Int64 → Int32 → fb_S → Option (Int32 × fb_S)) (x1 : Int64) (x4 : Int32) (st : fb_S) : Option (Int32 × fb_S) := (if x4 < (0 : Int32) then fb_rz (1 : Int32) st else (if (((fb_lus x1 ((8 : Int32) * x4)).toInt32) &&& (255 : Int32)) ≤ (0 : Int32) then b_M_write_108 k62 x1 x4 st else (fb_st st 0 260 (st 15 0) (fb_b (fb_b (((fb_lus x1 ((8 : Int32) * x4)).toInt32) &&& (255 : Int32))))).bind fun s3 => (fb_pf s3 15 ((s3 15 0) + (1 : Int32))).bind fun s4 => b_M_write_108 k62 x1 x4 s4))
set_option maxHeartbeats 4000000 in
set_option maxRecDepth 100000 in
theorem w_M_write_62 {p : Program} {l : Launch} {e : Env} {s : State} {m : MethodId} {args : Array Value} {below : List Frame} {meth : Method} {c : Code} {A : Nat → Prop} {dC : Nat → ClassId} {dI : Nat → Nat → Nat} {dA : Nat → ClassId} {a : Nat → Nat} (CX : fb_C p s m args meth c kc_M_write (some .boolean) 6 "FileTreeModel" (dC, dI) vcl (tM dA) A zM) (o : Int32 × fb_S) (k62 : Int64 → Int32 → fb_S → Option (Int32 × fb_S)) (hk62 : ∀ (x1 : Int64) (x4 : Int32) (st : fb_S), k62 x1 x4 st = some o → fb_G p l e (headSpec kw_M_write rm_M_write).room s m args below meth c (dC, dI) vcl (tM dA) (wM dA a) A (some (.int o.1)) o.2 62 6 [(0, .ref (a 0)), (1, .long x1), (4, .int x4)] [] st) (x1 : Int64) (x4 : Int32) (st : fb_S) (hF : b_M_write_62 k62 x1 x4 st = some o) : fb_G p l e (headSpec kw_M_write rm_M_write).room s m args below meth c (dC, dI) vcl (tM dA) (wM dA a) A (some (.int o.1)) o.2 62 6 [(0, .ref (a 0)), (1, .long x1), (4, .int x4)] [] st := by
  intro H locs hP hD hS ls hl
  obtain ⟨hx, hb, hr, hml, hown, hts, hK, hA, hlocks, hZ⟩ := id CX
  unfold b_M_write_62 at hF
  refine lv_iload hx hb kd_M_write_62 (lv_at hl 2 rfl) ?_
  refine lv_if_lt (tgt := 114) hx hb kd_M_write_64 (by decide) (fun c1 => ?_) (fun c1 => ?_)
  · rw [if_pos c1] at hF
    refine lv_iconst (v := 1) hx hb kd_M_write_114 (by decide) ?_
    exact fb_rb (o := o) hx hb hr hlocks hK hP hD hS hF kd_M_write_115
  · rw [if_neg c1] at hF
    refine lv_lload_n hx hb kd_M_write_67 rfl (lv_at hl 1 rfl) ?_
    refine lv_bipush (v := 8) hx hb kd_M_write_68 (by decide) ?_
    refine lv_iload hx hb kd_M_write_70 (lv_at hl 2 rfl) ?_
    refine lv_imul hx hb kd_M_write_72 ?_
    refine lv_lushr (v := fb_lus x1 ((8 : Int32) * x4)) hx hb kd_M_write_73 rfl ?_
    refine lv_l2i (v := (fb_lus x1 ((8 : Int32) * x4)).toInt32) hx hb kd_M_write_74 rfl ?_
    refine lv_sipush (v := 255) hx hb kd_M_write_75 (by decide) ?_
    refine lv_iand hx hb kd_M_write_78 ?_
    refine lv_istore (lv' := [(5, .int (((fb_lus x1 ((8 : Int32) * x4)).toInt32) &&& (255 : Int32))), (0, .ref (a 0)), (1, .long x1), (4, .int x4)]) hx hb kd_M_write_79 hl (by decide) rfl (fun ls hl => ?_)
    refine lv_iload hx hb kd_M_write_81 (lv_at hl 0 rfl) ?_
    refine lv_if_le (tgt := 108) hx hb kd_M_write_83 (by decide) (fun c2 => ?_) (fun c2 => ?_)
    · rw [if_pos c2] at hF
      exact w_M_write_108 CX o k62 hk62 x1 x4 st hF H locs hP hD hS ls (lv_sub hl [1, 2, 3] rfl)
    · rw [if_neg c2] at hF
      refine lv_aload_n hx hb kd_M_write_86 rfl (lv_at hl 1 rfl) ?_
      refine va_get (D := (dC, dI)) (ci := 5) (v := .ref (a 1)) (C := "FileTreeModel") (T := ft_M) (N := 18) hx hb hts fi_M hown hK hP 0 rfl rfl 2 (by decide) (hts _ q_471) (fun _ h9 => h9) rfl kd_M_write_87 ?_
      refine lv_aload_n hx hb kd_M_write_90 rfl (lv_at hl 1 rfl) ?_
      refine va_get (D := (dC, dI)) (ci := 5) (v := .int (st 15 0)) (C := "FileTreeModel") (T := ft_M) (N := 18) hx hb hts fi_M hown hK hP 0 rfl rfl 1 (by decide) (hts _ q_470) (fun _ h9 => h9) rfl kd_M_write_91 ?_
      refine lv_iload hx hb kd_M_write_94 (lv_at hl 0 rfl) ?_
      refine lv_i2b (v := fb_b (((fb_lus x1 ((8 : Int32) * x4)).toInt32) &&& (255 : Int32))) hx hb kd_M_write_96 rfl ?_
      obtain ⟨s3, e_s3, hF⟩ := fb_ob hF
      refine fb_bast (wx := (wM dA a)) (k := 0) hx hb hK hP hD hS 1 1 rfl rfl e_s3 (fun _ => rfl) kd_M_write_97 (fun H locs hP hD hS => ?_)
      refine lv_aload_n hx hb kd_M_write_98 rfl (lv_at hl 1 rfl) ?_
      refine lv_dup hx hb kd_M_write_99 rfl ?_
      refine va_get (D := (dC, dI)) (ci := 5) (v := .int (s3 15 0)) (C := "FileTreeModel") (T := ft_M) (N := 18) hx hb hts fi_M hown hK hP 0 rfl rfl 1 (by decide) (hts _ q_470) (fun _ h9 => h9) rfl kd_M_write_100 ?_
      refine lv_iconst (v := 1) hx hb kd_M_write_103 (by decide) ?_
      refine lv_iadd hx hb kd_M_write_104 ?_
      obtain ⟨s4, e_s4, hF⟩ := fb_ob hF
      refine va_put (D := (dC, dI)) (ci := 5) (v := .int ((s3 15 0) + (1 : Int32))) (ty := .int) (C := "FileTreeModel") (T := ft_M) (N := 18) hx hb hts fi_M fy_M fo_M fn_M hown hK hP hD hS 0 rfl rfl 1 (by decide) (hts _ q_470) (fun _ h9 => h9) rfl (by decide +kernel) rfl rfl (Nat.le_of_ble_eq_true rfl) kd_M_write_105 (fun H locs hP hD hS => ?_)
      cases e_s4
      obtain ⟨s4, e_s4⟩ : ∃ z : fb_S, z = va_up s3 15 (upd (s3 15) 0 ((s3 15 0) + (1 : Int32))) := ⟨_, rfl⟩
      rw [← e_s4] at hF
      have hP : va_P (dC, dI) vcl ((wM dA a) s4) H := by rw [e_s4]; exact hP
      have hD : va_D A ((wM dA a) s4) := by rw [e_s4]; exact hD
      exact w_M_write_108 CX o k62 hk62 x1 x4 s4 hF H locs hP hD hS ls (lv_sub hl [1, 2, 3] rfl)
def l_M_write_62 : Nat → Int64 → Int32 → fb_S → Option (Int32 × fb_S)
  | 0 => fun _ _ _ => none
  | n + 1 => b_M_write_62 (l_M_write_62 n)
theorem v_M_write_62 {p : Program} {l : Launch} {e : Env} {s : State} {m : MethodId} {args : Array Value} {below : List Frame} {meth : Method} {c : Code} {A : Nat → Prop} {dC : Nat → ClassId} {dI : Nat → Nat → Nat} {dA : Nat → ClassId} {a : Nat → Nat} (CX : fb_C p s m args meth c kc_M_write (some .boolean) 6 "FileTreeModel" (dC, dI) vcl (tM dA) A zM) (o : Int32 × fb_S) (n : Nat) : ∀ (x1 : Int64) (x4 : Int32) (st : fb_S), l_M_write_62 n x1 x4 st = some o → fb_G p l e (headSpec kw_M_write rm_M_write).room s m args below meth c (dC, dI) vcl (tM dA) (wM dA a) A (some (.int o.1)) o.2 62 6 [(0, .ref (a 0)), (1, .long x1), (4, .int x4)] [] st := by
  induction n with
  | zero => intro x1 x4 st hF; cases hF
  | succ n ih => intro x1 x4 st hF; exact w_M_write_62 CX o (l_M_write_62 n) ih x1 x4 st hF
def b_M_write_41 (k14 : Int64 → Int32 → Int32 → fb_S → Option (Int32 × fb_S)) (x1 : Int64) (x4 : Int32) (y0 : Int32) (y1 : Int32) (st : fb_S) : Option (Int32 × fb_S) := k14 x1 (y1 + y0) (x4 + (-1 : Int32)) st
set_option maxHeartbeats 4000000 in
set_option maxRecDepth 100000 in
theorem w_M_write_41 {p : Program} {l : Launch} {e : Env} {s : State} {m : MethodId} {args : Array Value} {below : List Frame} {meth : Method} {c : Code} {A : Nat → Prop} {dC : Nat → ClassId} {dI : Nat → Nat → Nat} {dA : Nat → ClassId} {a : Nat → Nat} (CX : fb_C p s m args meth c kc_M_write (some .boolean) 6 "FileTreeModel" (dC, dI) vcl (tM dA) A zM) (o : Int32 × fb_S) (k14 : Int64 → Int32 → Int32 → fb_S → Option (Int32 × fb_S)) (hk14 : ∀ (x1 : Int64) (x3 : Int32) (x4 : Int32) (st : fb_S), k14 x1 x3 x4 st = some o → fb_G p l e (headSpec kw_M_write rm_M_write).room s m args below meth c (dC, dI) vcl (tM dA) (wM dA a) A (some (.int o.1)) o.2 14 6 [(0, .ref (a 0)), (1, .long x1), (3, .int x3), (4, .int x4)] [] st) (x1 : Int64) (x4 : Int32) (y0 : Int32) (y1 : Int32) (st : fb_S) (hF : b_M_write_41 k14 x1 x4 y0 y1 st = some o) : fb_G p l e (headSpec kw_M_write rm_M_write).room s m args below meth c (dC, dI) vcl (tM dA) (wM dA a) A (some (.int o.1)) o.2 41 6 [(0, .ref (a 0)), (1, .long x1), (4, .int x4)] [.int y0, .int y1] st := by
  intro H locs hP hD hS ls hl
  obtain ⟨hx, hb, hr, hml, hown, hts, hK, hA, hlocks, hZ⟩ := id CX
  unfold b_M_write_41 at hF
  refine lv_iadd hx hb kd_M_write_41 ?_
  refine lv_istore_n (lv' := [(3, .int (y1 + y0)), (0, .ref (a 0)), (1, .long x1), (4, .int x4)]) hx hb kd_M_write_42 rfl hl (by decide) rfl (fun ls hl => ?_)
  refine lv_iinc (v := x4 + (-1 : Int32)) (lv' := [(4, .int (x4 + (-1 : Int32))), (3, .int (y1 + y0)), (0, .ref (a 0)), (1, .long x1)]) hx hb kd_M_write_43 hl (k := 3) rfl rfl (by decide) rfl (fun ls hl => ?_)
  refine lv_goto (tgt := 14) hx hb kd_M_write_46 (by decide) ?_
  exact hk14 x1 (y1 + y0) (x4 + (-1 : Int32)) st hF H locs hP hD hS ls (lv_sub hl [2, 3, 1, 0] rfl)
def b_M_write_14 (k14 : Int64 → Int32 → Int32 → fb_S → Option (Int32 × fb_S)) (x1 : Int64) (x3 : Int32) (x4 : Int32) (st : fb_S) : Option (Int32 × fb_S) := (if x4 < (0 : Int32) then (if x3 ≤ (260 : Int32) then l_M_write_62 fb_n x1 (7 : Int32) st else fb_rz (0 : Int32) st) else (if (lg_cmp ((fb_lus x1 ((8 : Int32) * x4)) &&& (255 : Int64)) (0 : Int64)) ≤ (0 : Int32) then b_M_write_41 k14 x1 x4 (0 : Int32) x3 st else b_M_write_41 k14 x1 x4 (1 : Int32) x3 st))
set_option maxHeartbeats 4000000 in
set_option maxRecDepth 100000 in
theorem w_M_write_14 {p : Program} {l : Launch} {e : Env} {s : State} {m : MethodId} {args : Array Value} {below : List Frame} {meth : Method} {c : Code} {A : Nat → Prop} {dC : Nat → ClassId} {dI : Nat → Nat → Nat} {dA : Nat → ClassId} {a : Nat → Nat} (CX : fb_C p s m args meth c kc_M_write (some .boolean) 6 "FileTreeModel" (dC, dI) vcl (tM dA) A zM) (o : Int32 × fb_S) (k14 : Int64 → Int32 → Int32 → fb_S → Option (Int32 × fb_S)) (hk14 : ∀ (x1 : Int64) (x3 : Int32) (x4 : Int32) (st : fb_S), k14 x1 x3 x4 st = some o → fb_G p l e (headSpec kw_M_write rm_M_write).room s m args below meth c (dC, dI) vcl (tM dA) (wM dA a) A (some (.int o.1)) o.2 14 6 [(0, .ref (a 0)), (1, .long x1), (3, .int x3), (4, .int x4)] [] st) (x1 : Int64) (x3 : Int32) (x4 : Int32) (st : fb_S) (hF : b_M_write_14 k14 x1 x3 x4 st = some o) : fb_G p l e (headSpec kw_M_write rm_M_write).room s m args below meth c (dC, dI) vcl (tM dA) (wM dA a) A (some (.int o.1)) o.2 14 6 [(0, .ref (a 0)), (1, .long x1), (3, .int x3), (4, .int x4)] [] st := by
  intro H locs hP hD hS ls hl
  obtain ⟨hx, hb, hr, hml, hown, hts, hK, hA, hlocks, hZ⟩ := id CX
  unfold b_M_write_14 at hF
  refine lv_iload hx hb kd_M_write_14 (lv_at hl 3 rfl) ?_
  refine lv_if_lt (tgt := 49) hx hb kd_M_write_16 (by decide) (fun c1 => ?_) (fun c1 => ?_)
  · rw [if_pos c1] at hF
    refine lv_iload_n hx hb kd_M_write_49 rfl (lv_at hl 2 rfl) ?_
    refine lv_sipush (v := 260) hx hb kd_M_write_50 (by decide) ?_
    refine lv_icmp_le (tgt := 58) hx hb kd_M_write_53 (by decide) (fun c2 => ?_) (fun c2 => ?_)
    · rw [if_pos c2] at hF
      refine lv_bipush (v := 7) hx hb kd_M_write_58 (by decide) ?_
      refine lv_istore (lv' := [(4, .int (7 : Int32)), (0, .ref (a 0)), (1, .long x1), (3, .int x3)]) hx hb kd_M_write_60 hl (by decide) rfl (fun ls hl => ?_)
      exact v_M_write_62 CX o fb_n x1 (7 : Int32) st hF H locs hP hD hS ls (lv_sub hl [1, 2, 0] rfl)
    · rw [if_neg c2] at hF
      refine lv_iconst (v := 0) hx hb kd_M_write_56 (by decide) ?_
      exact fb_rb (o := o) hx hb hr hlocks hK hP hD hS hF kd_M_write_57
  · rw [if_neg c1] at hF
    refine lv_iload_n hx hb kd_M_write_19 rfl (lv_at hl 2 rfl) ?_
    refine lv_lload_n hx hb kd_M_write_20 rfl (lv_at hl 1 rfl) ?_
    refine lv_bipush (v := 8) hx hb kd_M_write_21 (by decide) ?_
    refine lv_iload hx hb kd_M_write_23 (lv_at hl 3 rfl) ?_
    refine lv_imul hx hb kd_M_write_25 ?_
    refine lv_lushr (v := fb_lus x1 ((8 : Int32) * x4)) hx hb kd_M_write_26 rfl ?_
    refine lv_ldc2 (v := 255) hx hb hown (hts _ q_529) kd_M_write_27 ?_
    refine lv_land hx hb kd_M_write_30 ?_
    refine lv_lconst (v := 0) hx hb kd_M_write_31 (by decide) ?_
    refine W.lcmp hx hb kd_M_write_32 ?_
    refine lv_if_le (tgt := 40) hx hb kd_M_write_33 (by decide) (fun c3 => ?_) (fun c3 => ?_)
    · rw [if_pos c3] at hF
      refine lv_iconst (v := 0) hx hb kd_M_write_40 (by decide) ?_
      exact w_M_write_41 CX o k14 hk14 x1 x4 (0 : Int32) x3 st hF H locs hP hD hS ls (lv_sub hl [0, 1, 3] rfl)
    · rw [if_neg c3] at hF
      refine lv_iconst (v := 1) hx hb kd_M_write_36 (by decide) ?_
      refine lv_goto (tgt := 41) hx hb kd_M_write_37 (by decide) ?_
      exact w_M_write_41 CX o k14 hk14 x1 x4 (1 : Int32) x3 st hF H locs hP hD hS ls (lv_sub hl [0, 1, 3] rfl)
def l_M_write_14 : Nat → Int64 → Int32 → Int32 → fb_S → Option (Int32 × fb_S)
  | 0 => fun _ _ _ _ => none
  | n + 1 => b_M_write_14 (l_M_write_14 n)
theorem v_M_write_14 {p : Program} {l : Launch} {e : Env} {s : State} {m : MethodId} {args : Array Value} {below : List Frame} {meth : Method} {c : Code} {A : Nat → Prop} {dC : Nat → ClassId} {dI : Nat → Nat → Nat} {dA : Nat → ClassId} {a : Nat → Nat} (CX : fb_C p s m args meth c kc_M_write (some .boolean) 6 "FileTreeModel" (dC, dI) vcl (tM dA) A zM) (o : Int32 × fb_S) (n : Nat) : ∀ (x1 : Int64) (x3 : Int32) (x4 : Int32) (st : fb_S), l_M_write_14 n x1 x3 x4 st = some o → fb_G p l e (headSpec kw_M_write rm_M_write).room s m args below meth c (dC, dI) vcl (tM dA) (wM dA a) A (some (.int o.1)) o.2 14 6 [(0, .ref (a 0)), (1, .long x1), (3, .int x3), (4, .int x4)] [] st := by
  induction n with
  | zero => intro x1 x3 x4 st hF; cases hF
  | succ n ih => intro x1 x3 x4 st hF; exact w_M_write_14 CX o (l_M_write_14 n) ih x1 x3 x4 st hF
def f_M_write (x1 : Int64) (st : fb_S) : Option (Int32 × fb_S) := (fb_pf st 14 (0 : Int32)).bind fun s1 => l_M_write_14 fb_n x1 (s1 15 0) (7 : Int32) s1
set_option maxHeartbeats 4000000 in
set_option maxRecDepth 100000 in
theorem w_M_write_0 {p : Program} {l : Launch} {e : Env} {s : State} {m : MethodId} {args : Array Value} {below : List Frame} {meth : Method} {c : Code} {A : Nat → Prop} {dC : Nat → ClassId} {dI : Nat → Nat → Nat} {dA : Nat → ClassId} {a : Nat → Nat} (CX : fb_C p s m args meth c kc_M_write (some .boolean) 6 "FileTreeModel" (dC, dI) vcl (tM dA) A zM) (o : Int32 × fb_S) (x1 : Int64) (st : fb_S) (hF : f_M_write x1 st = some o) : fb_G p l e (headSpec kw_M_write rm_M_write).room s m args below meth c (dC, dI) vcl (tM dA) (wM dA a) A (some (.int o.1)) o.2 0 6 [(0, .ref (a 0)), (1, .long x1)] [] st := by
  intro H locs hP hD hS ls hl
  obtain ⟨hx, hb, hr, hml, hown, hts, hK, hA, hlocks, hZ⟩ := id CX
  unfold f_M_write at hF
  refine lv_aload_n hx hb kd_M_write_0 rfl (lv_at hl 0 rfl) ?_
  refine lv_iconst (v := 0) hx hb kd_M_write_1 (by decide) ?_
  obtain ⟨s1, e_s1, hF⟩ := fb_ob hF
  refine va_put (D := (dC, dI)) (ci := 5) (v := .int (0 : Int32)) (ty := .int) (C := "FileTreeModel") (T := ft_M) (N := 18) hx hb hts fi_M fy_M fo_M fn_M hown hK hP hD hS 0 rfl rfl 0 (by decide) (hts _ q_469) (fun _ h9 => h9) rfl (by decide +kernel) rfl rfl (Nat.le_of_ble_eq_true rfl) kd_M_write_2 (fun H locs hP hD hS => ?_)
  cases e_s1
  obtain ⟨s1, e_s1⟩ : ∃ z : fb_S, z = va_up st 14 (upd (st 14) 0 (0 : Int32)) := ⟨_, rfl⟩
  rw [← e_s1] at hF
  have hP : va_P (dC, dI) vcl ((wM dA a) s1) H := by rw [e_s1]; exact hP
  have hD : va_D A ((wM dA a) s1) := by rw [e_s1]; exact hD
  refine lv_aload_n hx hb kd_M_write_5 rfl (lv_at hl 0 rfl) ?_
  refine va_get (D := (dC, dI)) (ci := 5) (v := .int (s1 15 0)) (C := "FileTreeModel") (T := ft_M) (N := 18) hx hb hts fi_M hown hK hP 0 rfl rfl 1 (by decide) (hts _ q_470) (fun _ h9 => h9) rfl kd_M_write_6 ?_
  refine lv_istore_n (lv' := [(3, .int (s1 15 0)), (0, .ref (a 0)), (1, .long x1)]) hx hb kd_M_write_9 rfl hl (by decide) rfl (fun ls hl => ?_)
  refine lv_bipush (v := 7) hx hb kd_M_write_10 (by decide) ?_
  refine lv_istore (lv' := [(4, .int (7 : Int32)), (3, .int (s1 15 0)), (0, .ref (a 0)), (1, .long x1)]) hx hb kd_M_write_12 hl (by decide) rfl (fun ls hl => ?_)
  exact v_M_write_14 CX o fb_n x1 (s1 15 0) (7 : Int32) s1 hF H locs hP hD hS ls (lv_sub hl [2, 3, 1, 0] rfl)
theorem c_M_write (l : Launch) (dC : Nat → ClassId) (dI : Nat → Nat → Nat) (dA : Nat → ClassId) (a : Nat → Nat) (x1 : Int64) (st : fb_S) (o : Int32 × fb_S) (h : f_M_write x1 st = some o) : fb_M l ky_M_write kw_M_write rm_M_write (dC, dI) vcl (tM dA) (wM dA a) zM [.ref (a 0), .long x1] (some (.int o.1)) st o.2 := fb_enter (by decide) rfl (Nat.le_of_ble_eq_true rfl) (fun p e s m below meth c A CX hP hD hS ls hl => w_M_write_0 CX o x1 st h s.heap [] hP hD hS ls hl)
abbrev rm_M_taken : Room := { frames := 0, cells := 0, slots := 0, locals := 0 }
def f_M_taken (st : fb_S) : Option (Int32 × fb_S) := (fb_pf st 15 (0 : Int32)).bind fun s1 => some (st 15 0, s1)
set_option maxHeartbeats 4000000 in
set_option maxRecDepth 100000 in
theorem w_M_taken_0 {p : Program} {l : Launch} {e : Env} {s : State} {m : MethodId} {args : Array Value} {below : List Frame} {meth : Method} {c : Code} {A : Nat → Prop} {dC : Nat → ClassId} {dI : Nat → Nat → Nat} {dA : Nat → ClassId} {a : Nat → Nat} (CX : fb_C p s m args meth c kc_M_taken (some .int) 2 "FileTreeModel" (dC, dI) vcl (tM dA) A zM) (o : Int32 × fb_S) (st : fb_S) (hF : f_M_taken st = some o) : fb_G p l e (headSpec kw_M_taken rm_M_taken).room s m args below meth c (dC, dI) vcl (tM dA) (wM dA a) A (some (.int o.1)) o.2 0 2 [(0, .ref (a 0))] [] st := by
  intro H locs hP hD hS ls hl
  obtain ⟨hx, hb, hr, hml, hown, hts, hK, hA, hlocks, hZ⟩ := id CX
  unfold f_M_taken at hF
  refine lv_aload_n hx hb kd_M_taken_0 rfl (lv_at hl 0 rfl) ?_
  refine va_get (D := (dC, dI)) (ci := 5) (v := .int (st 15 0)) (C := "FileTreeModel") (T := ft_M) (N := 18) hx hb hts fi_M hown hK hP 0 rfl rfl 1 (by decide) (hts _ q_470) (fun _ h9 => h9) rfl kd_M_taken_1 ?_
  refine lv_istore_n (lv' := [(1, .int (st 15 0)), (0, .ref (a 0))]) hx hb kd_M_taken_4 rfl hl (by decide) rfl (fun ls hl => ?_)
  refine lv_aload_n hx hb kd_M_taken_5 rfl (lv_at hl 1 rfl) ?_
  refine lv_iconst (v := 0) hx hb kd_M_taken_6 (by decide) ?_
  obtain ⟨s1, e_s1, hF⟩ := fb_ob hF
  refine va_put (D := (dC, dI)) (ci := 5) (v := .int (0 : Int32)) (ty := .int) (C := "FileTreeModel") (T := ft_M) (N := 18) hx hb hts fi_M fy_M fo_M fn_M hown hK hP hD hS 0 rfl rfl 1 (by decide) (hts _ q_470) (fun _ h9 => h9) rfl (by decide +kernel) rfl rfl (Nat.le_of_ble_eq_true rfl) kd_M_taken_7 (fun H locs hP hD hS => ?_)
  cases e_s1
  obtain ⟨s1, e_s1⟩ : ∃ z : fb_S, z = va_up st 15 (upd (st 15) 0 (0 : Int32)) := ⟨_, rfl⟩
  rw [← e_s1] at hF
  have hP : va_P (dC, dI) vcl ((wM dA a) s1) H := by rw [e_s1]; exact hP
  have hD : va_D A ((wM dA a) s1) := by rw [e_s1]; exact hD
  refine lv_iload_n hx hb kd_M_taken_10 rfl (lv_at hl 0 rfl) ?_
  exact fb_ri (o := o) hx hb hr hlocks hK hP hD hS hF kd_M_taken_11
theorem c_M_taken (l : Launch) (dC : Nat → ClassId) (dI : Nat → Nat → Nat) (dA : Nat → ClassId) (a : Nat → Nat) (st : fb_S) (o : Int32 × fb_S) (h : f_M_taken st = some o) : fb_M l ky_M_taken kw_M_taken rm_M_taken (dC, dI) vcl (tM dA) (wM dA a) zM [.ref (a 0)] (some (.int o.1)) st o.2 := fb_enter (by decide) rfl (Nat.le_of_ble_eq_true rfl) (fun p e s m below meth c A CX hP hD hS ls hl => w_M_taken_0 CX o st h s.heap [] hP hD hS ls hl)
abbrev rm_M_isInode : Room := { frames := 0, cells := 0, slots := 0, locals := 0 }
def f_M_isInode (x0 : Int32) (st : fb_S) : Option (Int32 × fb_S) := (if x0 < (0 : Int32) then fb_rz (0 : Int32) st else (if (64 : Int32) ≤ x0 then fb_rz (0 : Int32) st else fb_rz (1 : Int32) st))
set_option maxHeartbeats 4000000 in
set_option maxRecDepth 100000 in
theorem w_M_isInode_0 {p : Program} {l : Launch} {e : Env} {s : State} {m : MethodId} {args : Array Value} {below : List Frame} {meth : Method} {c : Code} {A : Nat → Prop} {dC : Nat → ClassId} {dI : Nat → Nat → Nat} {dA : Nat → ClassId} {a : Nat → Nat} (CX : fb_C p s m args meth c kc_M_isInode (some .boolean) 1 "FileTreeModel" (dC, dI) vcl (tM dA) A zM) (o : Int32 × fb_S) (x0 : Int32) (st : fb_S) (hF : f_M_isInode x0 st = some o) : fb_G p l e (headSpec kw_M_isInode rm_M_isInode).room s m args below meth c (dC, dI) vcl (tM dA) (wM dA a) A (some (.int o.1)) o.2 0 1 [(0, .int x0)] [] st := by
  intro H locs hP hD hS ls hl
  obtain ⟨hx, hb, hr, hml, hown, hts, hK, hA, hlocks, hZ⟩ := id CX
  unfold f_M_isInode at hF
  refine lv_iload_n hx hb kd_M_isInode_0 rfl (lv_at hl 0 rfl) ?_
  refine lv_if_lt (tgt := 14) hx hb kd_M_isInode_1 (by decide) (fun c1 => ?_) (fun c1 => ?_)
  · rw [if_pos c1] at hF
    refine lv_iconst (v := 0) hx hb kd_M_isInode_14 (by decide) ?_
    exact fb_rb (o := o) hx hb hr hlocks hK hP hD hS hF kd_M_isInode_15
  · rw [if_neg c1] at hF
    refine lv_iload_n hx hb kd_M_isInode_4 rfl (lv_at hl 0 rfl) ?_
    refine lv_bipush (v := 64) hx hb kd_M_isInode_5 (by decide) ?_
    refine lv_icmp_ge (tgt := 14) hx hb kd_M_isInode_7 (by decide) (fun c2 => ?_) (fun c2 => ?_)
    · rw [if_pos c2] at hF
      refine lv_iconst (v := 0) hx hb kd_M_isInode_14 (by decide) ?_
      exact fb_rb (o := o) hx hb hr hlocks hK hP hD hS hF kd_M_isInode_15
    · rw [if_neg c2] at hF
      refine lv_iconst (v := 1) hx hb kd_M_isInode_10 (by decide) ?_
      refine lv_goto (tgt := 15) hx hb kd_M_isInode_11 (by decide) ?_
      exact fb_rb (o := o) hx hb hr hlocks hK hP hD hS hF kd_M_isInode_15
theorem c_M_isInode (l : Launch) (dC : Nat → ClassId) (dI : Nat → Nat → Nat) (dA : Nat → ClassId) (a : Nat → Nat) (x0 : Int32) (st : fb_S) (o : Int32 × fb_S) (h : f_M_isInode x0 st = some o) : fb_M l ky_M_isInode kw_M_isInode rm_M_isInode (dC, dI) vcl (tM dA) (wM dA a) zM [.int x0] (some (.int o.1)) st o.2 := fb_enter (by decide) rfl (Nat.le_of_ble_eq_true rfl) (fun p e s m below meth c A CX hP hD hS ls hl => w_M_isInode_0 CX o x0 st h s.heap [] hP hD hS ls hl)
abbrev rm_M_there : Room := { frames := 1, cells := 0, slots := 0, locals := 20 }
def f_M_there (x1 : Int32) (st : fb_S) : Option (Int32 × fb_S) := (f_M_isInode x1 st).bind fun r1 => (if r1.1 = (0 : Int32) then fb_rz (0 : Int32) r1.2 else (fb_ld (r1.2 4) 64 x1).bind fun v3 => (if v3 ≤ (0 : Int32) then fb_rz (0 : Int32) r1.2 else fb_rz (1 : Int32) r1.2))
set_option maxHeartbeats 4000000 in
set_option maxRecDepth 100000 in
theorem w_M_there_0 {p : Program} {l : Launch} {e : Env} {s : State} {m : MethodId} {args : Array Value} {below : List Frame} {meth : Method} {c : Code} {A : Nat → Prop} {dC : Nat → ClassId} {dI : Nat → Nat → Nat} {dA : Nat → ClassId} {a : Nat → Nat} (CX : fb_C p s m args meth c kc_M_there (some .boolean) 2 "FileTreeModel" (dC, dI) vcl (tM dA) A zM) (o : Int32 × fb_S) (x1 : Int32) (st : fb_S) (hF : f_M_there x1 st = some o) : fb_G p l e (headSpec kw_M_there rm_M_there).room s m args below meth c (dC, dI) vcl (tM dA) (wM dA a) A (some (.int o.1)) o.2 0 2 [(0, .ref (a 0)), (1, .int x1)] [] st := by
  intro H locs hP hD hS ls hl
  obtain ⟨hx, hb, hr, hml, hown, hts, hK, hA, hlocks, hZ⟩ := id CX
  unfold f_M_there at hF
  refine lv_iload_n hx hb kd_M_there_0 rfl (lv_at hl 1 rfl) ?_
  obtain ⟨r1, e_r1, hF⟩ := fb_ob hF
  refine fb_callS (As := [.int x1]) (rest := []) ⟨hx, hb, hml, hown, hts⟩ zM_mv hZ hK hP hD hS hA (c_M_isInode l dC dI dA a x1 st r1 e_r1) (va_cwS 1 hts (gd_S q_550 ko_M_isInode) rfl rfl rfl kh_M_isInode ⟨Nat.le_of_ble_eq_true rfl, Nat.le_of_ble_eq_true rfl⟩) rfl hl.1 rfl (Nat.le_of_ble_eq_true rfl) kd_M_there_1 ⟨Nat.zero_le _, Nat.zero_le _⟩ (fun H locs hP hD hS => ?_)
  refine W.eq (g2 := F0 m 4 ls [.int r1.1]) rfl ?_
  refine lv_if_eq (tgt := 20) hx hb kd_M_there_4 (by decide) (fun c2 => ?_) (fun c2 => ?_)
  · rw [if_pos c2] at hF
    refine lv_iconst (v := 0) hx hb kd_M_there_20 (by decide) ?_
    exact fb_rb (o := o) hx hb hr hlocks hK hP hD hS hF kd_M_there_21
  · rw [if_neg c2] at hF
    refine lv_aload_n hx hb kd_M_there_7 rfl (lv_at hl 0 rfl) ?_
    refine va_get (D := (dC, dI)) (ci := 5) (v := .ref (a 5)) (C := "FileTreeModel") (T := ft_M) (N := 18) hx hb hts fi_M hown hK hP 0 rfl rfl 6 (by decide) (hts _ q_475) (fun _ h9 => h9) rfl kd_M_there_8 ?_
    refine lv_iload_n hx hb kd_M_there_11 rfl (lv_at hl 1 rfl) ?_
    obtain ⟨v3, e_v3, hF⟩ := fb_ob hF
    refine fb_iald hx hb hK hP 5 0 rfl rfl e_v3 kd_M_there_12 ?_
    refine lv_if_le (tgt := 20) hx hb kd_M_there_13 (by decide) (fun c4 => ?_) (fun c4 => ?_)
    · rw [if_pos c4] at hF
      refine lv_iconst (v := 0) hx hb kd_M_there_20 (by decide) ?_
      exact fb_rb (o := o) hx hb hr hlocks hK hP hD hS hF kd_M_there_21
    · rw [if_neg c4] at hF
      refine lv_iconst (v := 1) hx hb kd_M_there_16 (by decide) ?_
      refine lv_goto (tgt := 21) hx hb kd_M_there_17 (by decide) ?_
      exact fb_rb (o := o) hx hb hr hlocks hK hP hD hS hF kd_M_there_21
theorem c_M_there (l : Launch) (dC : Nat → ClassId) (dI : Nat → Nat → Nat) (dA : Nat → ClassId) (a : Nat → Nat) (x1 : Int32) (st : fb_S) (o : Int32 × fb_S) (h : f_M_there x1 st = some o) : fb_M l ky_M_there kw_M_there rm_M_there (dC, dI) vcl (tM dA) (wM dA a) zM [.ref (a 0), .int x1] (some (.int o.1)) st o.2 := fb_enter (by decide) rfl (Nat.le_of_ble_eq_true rfl) (fun p e s m below meth c A CX hP hD hS ls hl => w_M_there_0 CX o x1 st h s.heap [] hP hD hS ls hl)
abbrev rm_M_begin : Room := { frames := 2, cells := 0, slots := 0, locals := 41 }
def b_M_begin_65 (k37 : Int32 → Int32 → Int32 → Int32 → Int32 → fb_S → Option (Int32 × fb_S)) (x1 : Int32) (x2 : Int32) (x3 : Int32) (x5 : Int32) (y0 : Int32) (st : fb_S) : Option (Int32 × fb_S) := k37 x1 x2 x3 y0 (x5 + (1 : Int32)) st
set_option maxHeartbeats 4000000 in
set_option maxRecDepth 100000 in
theorem w_M_begin_65 {p : Program} {l : Launch} {e : Env} {s : State} {m : MethodId} {args : Array Value} {below : List Frame} {meth : Method} {c : Code} {A : Nat → Prop} {dC : Nat → ClassId} {dI : Nat → Nat → Nat} {dA : Nat → ClassId} {a : Nat → Nat} (CX : fb_C p s m args meth c kc_M_begin (some .int) 6 "FileTreeModel" (dC, dI) vcl (tM dA) A zM) (o : Int32 × fb_S) (k37 : Int32 → Int32 → Int32 → Int32 → Int32 → fb_S → Option (Int32 × fb_S)) (hk37 : ∀ (x1 : Int32) (x2 : Int32) (x3 : Int32) (x4 : Int32) (x5 : Int32) (st : fb_S), k37 x1 x2 x3 x4 x5 st = some o → fb_G p l e (headSpec kw_M_begin rm_M_begin).room s m args below meth c (dC, dI) vcl (tM dA) (wM dA a) A (some (.int o.1)) o.2 37 6 [(0, .ref (a 0)), (1, .int x1), (2, .int x2), (3, .int x3), (4, .int x4), (5, .int x5)] [] st) (x1 : Int32) (x2 : Int32) (x3 : Int32) (x5 : Int32) (y0 : Int32) (st : fb_S) (hF : b_M_begin_65 k37 x1 x2 x3 x5 y0 st = some o) : fb_G p l e (headSpec kw_M_begin rm_M_begin).room s m args below meth c (dC, dI) vcl (tM dA) (wM dA a) A (some (.int o.1)) o.2 65 6 [(0, .ref (a 0)), (1, .int x1), (2, .int x2), (3, .int x3), (5, .int x5)] [.int y0] st := by
  intro H locs hP hD hS ls hl
  obtain ⟨hx, hb, hr, hml, hown, hts, hK, hA, hlocks, hZ⟩ := id CX
  unfold b_M_begin_65 at hF
  refine lv_istore (lv' := [(4, .int y0), (0, .ref (a 0)), (1, .int x1), (2, .int x2), (3, .int x3), (5, .int x5)]) hx hb kd_M_begin_65 hl (by decide) rfl (fun ls hl => ?_)
  refine lv_iinc (v := x5 + (1 : Int32)) (lv' := [(5, .int (x5 + (1 : Int32))), (4, .int y0), (0, .ref (a 0)), (1, .int x1), (2, .int x2), (3, .int x3)]) hx hb kd_M_begin_67 hl (k := 5) rfl rfl (by decide) rfl (fun ls hl => ?_)
  refine lv_goto (tgt := 37) hx hb kd_M_begin_70 (by decide) ?_
  exact hk37 x1 x2 x3 y0 (x5 + (1 : Int32)) st hF H locs hP hD hS ls (lv_sub hl [2, 3, 4, 5, 1, 0] rfl)
def b_M_begin_64 (k37 : Int32 → Int32 → Int32 → Int32 → Int32 → fb_S → Option (Int32 × fb_S)) (x1 : Int32) (x2 : Int32) (x3 : Int32) (x5 : Int32) (st : fb_S) : Option (Int32 × fb_S) := b_M_begin_65 k37 x1 x2 x3 x5 (0 : Int32) st
set_option maxHeartbeats 4000000 in
set_option maxRecDepth 100000 in
theorem w_M_begin_64 {p : Program} {l : Launch} {e : Env} {s : State} {m : MethodId} {args : Array Value} {below : List Frame} {meth : Method} {c : Code} {A : Nat → Prop} {dC : Nat → ClassId} {dI : Nat → Nat → Nat} {dA : Nat → ClassId} {a : Nat → Nat} (CX : fb_C p s m args meth c kc_M_begin (some .int) 6 "FileTreeModel" (dC, dI) vcl (tM dA) A zM) (o : Int32 × fb_S) (k37 : Int32 → Int32 → Int32 → Int32 → Int32 → fb_S → Option (Int32 × fb_S)) (hk37 : ∀ (x1 : Int32) (x2 : Int32) (x3 : Int32) (x4 : Int32) (x5 : Int32) (st : fb_S), k37 x1 x2 x3 x4 x5 st = some o → fb_G p l e (headSpec kw_M_begin rm_M_begin).room s m args below meth c (dC, dI) vcl (tM dA) (wM dA a) A (some (.int o.1)) o.2 37 6 [(0, .ref (a 0)), (1, .int x1), (2, .int x2), (3, .int x3), (4, .int x4), (5, .int x5)] [] st) (x1 : Int32) (x2 : Int32) (x3 : Int32) (x5 : Int32) (st : fb_S) (hF : b_M_begin_64 k37 x1 x2 x3 x5 st = some o) : fb_G p l e (headSpec kw_M_begin rm_M_begin).room s m args below meth c (dC, dI) vcl (tM dA) (wM dA a) A (some (.int o.1)) o.2 64 6 [(0, .ref (a 0)), (1, .int x1), (2, .int x2), (3, .int x3), (5, .int x5)] [] st := by
  intro H locs hP hD hS ls hl
  obtain ⟨hx, hb, hr, hml, hown, hts, hK, hA, hlocks, hZ⟩ := id CX
  unfold b_M_begin_64 at hF
  refine lv_iconst (v := 0) hx hb kd_M_begin_64 (by decide) ?_
  exact w_M_begin_65 CX o k37 hk37 x1 x2 x3 x5 (0 : Int32) st hF H locs hP hD hS ls (lv_sub hl [0, 1, 2, 3, 4] rfl)
def b_M_begin_37 (k37 : Int32 → Int32 → Int32 → Int32 → Int32 → fb_S → Option (Int32 × fb_S)) (x1 : Int32) (x2 : Int32) (x3 : Int32) (x4 : Int32) (x5 : Int32) (st : fb_S) : Option (Int32 × fb_S) := (if x3 ≤ x5 then (if x4 = (0 : Int32) then some ((0 : Int32), st) else (if x3 ≤ x2 then some (x1, st) else (fb_ld (st 0) 260 x2).bind fun v4 => (if v4 = (47 : Int32) then some ((1 : Int32), st) else some (x1, st)))) else (if x4 = (0 : Int32) then b_M_begin_64 k37 x1 x2 x3 x5 st else (fb_ld (st 0) 260 x5).bind fun v7 => (if v7 = (32 : Int32) then b_M_begin_64 k37 x1 x2 x3 x5 st else b_M_begin_65 k37 x1 x2 x3 x5 (1 : Int32) st)))
set_option maxHeartbeats 4000000 in
set_option maxRecDepth 100000 in
theorem w_M_begin_37 {p : Program} {l : Launch} {e : Env} {s : State} {m : MethodId} {args : Array Value} {below : List Frame} {meth : Method} {c : Code} {A : Nat → Prop} {dC : Nat → ClassId} {dI : Nat → Nat → Nat} {dA : Nat → ClassId} {a : Nat → Nat} (CX : fb_C p s m args meth c kc_M_begin (some .int) 6 "FileTreeModel" (dC, dI) vcl (tM dA) A zM) (o : Int32 × fb_S) (k37 : Int32 → Int32 → Int32 → Int32 → Int32 → fb_S → Option (Int32 × fb_S)) (hk37 : ∀ (x1 : Int32) (x2 : Int32) (x3 : Int32) (x4 : Int32) (x5 : Int32) (st : fb_S), k37 x1 x2 x3 x4 x5 st = some o → fb_G p l e (headSpec kw_M_begin rm_M_begin).room s m args below meth c (dC, dI) vcl (tM dA) (wM dA a) A (some (.int o.1)) o.2 37 6 [(0, .ref (a 0)), (1, .int x1), (2, .int x2), (3, .int x3), (4, .int x4), (5, .int x5)] [] st) (x1 : Int32) (x2 : Int32) (x3 : Int32) (x4 : Int32) (x5 : Int32) (st : fb_S) (hF : b_M_begin_37 k37 x1 x2 x3 x4 x5 st = some o) : fb_G p l e (headSpec kw_M_begin rm_M_begin).room s m args below meth c (dC, dI) vcl (tM dA) (wM dA a) A (some (.int o.1)) o.2 37 6 [(0, .ref (a 0)), (1, .int x1), (2, .int x2), (3, .int x3), (4, .int x4), (5, .int x5)] [] st := by
  intro H locs hP hD hS ls hl
  obtain ⟨hx, hb, hr, hml, hown, hts, hK, hA, hlocks, hZ⟩ := id CX
  unfold b_M_begin_37 at hF
  refine lv_iload hx hb kd_M_begin_37 (lv_at hl 5 rfl) ?_
  refine lv_iload_n hx hb kd_M_begin_39 rfl (lv_at hl 3 rfl) ?_
  refine lv_icmp_ge (tgt := 73) hx hb kd_M_begin_40 (by decide) (fun c1 => ?_) (fun c1 => ?_)
  · rw [if_pos c1] at hF
    refine lv_iload hx hb kd_M_begin_73 (lv_at hl 4 rfl) ?_
    refine lv_if_ne (tgt := 82) hx hb kd_M_begin_75 (by decide) (fun c2 => ?_) (fun c2 => ?_)
    · rw [if_neg c2] at hF
      refine lv_iload_n hx hb kd_M_begin_82 rfl (lv_at hl 2 rfl) ?_
      refine lv_iload_n hx hb kd_M_begin_83 rfl (lv_at hl 3 rfl) ?_
      refine lv_icmp_ge (tgt := 102) hx hb kd_M_begin_84 (by decide) (fun c3 => ?_) (fun c3 => ?_)
      · rw [if_pos c3] at hF
        refine lv_iload_n hx hb kd_M_begin_102 rfl (lv_at hl 1 rfl) ?_
        exact fb_ri (o := o) hx hb hr hlocks hK hP hD hS hF kd_M_begin_103
      · rw [if_neg c3] at hF
        refine lv_aload_n hx hb kd_M_begin_87 rfl (lv_at hl 0 rfl) ?_
        refine va_get (D := (dC, dI)) (ci := 5) (v := .ref (a 1)) (C := "FileTreeModel") (T := ft_M) (N := 18) hx hb hts fi_M hown hK hP 0 rfl rfl 2 (by decide) (hts _ q_471) (fun _ h9 => h9) rfl kd_M_begin_88 ?_
        refine lv_iload_n hx hb kd_M_begin_91 rfl (lv_at hl 2 rfl) ?_
        obtain ⟨v4, e_v4, hF⟩ := fb_ob hF
        refine fb_bald hx hb hK hP 1 1 rfl rfl e_v4 kd_M_begin_92 ?_
        refine lv_bipush (v := 47) hx hb kd_M_begin_93 (by decide) ?_
        refine lv_icmp_ne (tgt := 102) hx hb kd_M_begin_95 (by decide) (fun c5 => ?_) (fun c5 => ?_)
        · rw [if_neg c5] at hF
          refine lv_iload_n hx hb kd_M_begin_102 rfl (lv_at hl 1 rfl) ?_
          exact fb_ri (o := o) hx hb hr hlocks hK hP hD hS hF kd_M_begin_103
        · rw [if_pos c5] at hF
          refine lv_iconst (v := 1) hx hb kd_M_begin_98 (by decide) ?_
          refine lv_goto (tgt := 103) hx hb kd_M_begin_99 (by decide) ?_
          exact fb_ri (o := o) hx hb hr hlocks hK hP hD hS hF kd_M_begin_103
    · rw [if_pos c2] at hF
      refine lv_iconst (v := 0) hx hb kd_M_begin_78 (by decide) ?_
      refine lv_goto (tgt := 103) hx hb kd_M_begin_79 (by decide) ?_
      exact fb_ri (o := o) hx hb hr hlocks hK hP hD hS hF kd_M_begin_103
  · rw [if_neg c1] at hF
    refine lv_iload hx hb kd_M_begin_43 (lv_at hl 4 rfl) ?_
    refine lv_if_eq (tgt := 64) hx hb kd_M_begin_45 (by decide) (fun c6 => ?_) (fun c6 => ?_)
    · rw [if_pos c6] at hF
      exact w_M_begin_64 CX o k37 hk37 x1 x2 x3 x5 st hF H locs hP hD hS ls (lv_sub hl [0, 1, 2, 3, 5] rfl)
    · rw [if_neg c6] at hF
      refine lv_aload_n hx hb kd_M_begin_48 rfl (lv_at hl 0 rfl) ?_
      refine va_get (D := (dC, dI)) (ci := 5) (v := .ref (a 1)) (C := "FileTreeModel") (T := ft_M) (N := 18) hx hb hts fi_M hown hK hP 0 rfl rfl 2 (by decide) (hts _ q_471) (fun _ h9 => h9) rfl kd_M_begin_49 ?_
      refine lv_iload hx hb kd_M_begin_52 (lv_at hl 5 rfl) ?_
      obtain ⟨v7, e_v7, hF⟩ := fb_ob hF
      refine fb_bald hx hb hK hP 1 1 rfl rfl e_v7 kd_M_begin_54 ?_
      refine lv_bipush (v := 32) hx hb kd_M_begin_55 (by decide) ?_
      refine lv_icmp_eq (tgt := 64) hx hb kd_M_begin_57 (by decide) (fun c8 => ?_) (fun c8 => ?_)
      · rw [if_pos c8] at hF
        exact w_M_begin_64 CX o k37 hk37 x1 x2 x3 x5 st hF H locs hP hD hS ls (lv_sub hl [0, 1, 2, 3, 5] rfl)
      · rw [if_neg c8] at hF
        refine lv_iconst (v := 1) hx hb kd_M_begin_60 (by decide) ?_
        refine lv_goto (tgt := 65) hx hb kd_M_begin_61 (by decide) ?_
        exact w_M_begin_65 CX o k37 hk37 x1 x2 x3 x5 (1 : Int32) st hF H locs hP hD hS ls (lv_sub hl [0, 1, 2, 3, 5] rfl)
def l_M_begin_37 : Nat → Int32 → Int32 → Int32 → Int32 → Int32 → fb_S → Option (Int32 × fb_S)
  | 0 => fun _ _ _ _ _ _ => none
  | n + 1 => b_M_begin_37 (l_M_begin_37 n)
theorem v_M_begin_37 {p : Program} {l : Launch} {e : Env} {s : State} {m : MethodId} {args : Array Value} {below : List Frame} {meth : Method} {c : Code} {A : Nat → Prop} {dC : Nat → ClassId} {dI : Nat → Nat → Nat} {dA : Nat → ClassId} {a : Nat → Nat} (CX : fb_C p s m args meth c kc_M_begin (some .int) 6 "FileTreeModel" (dC, dI) vcl (tM dA) A zM) (o : Int32 × fb_S) (n : Nat) : ∀ (x1 : Int32) (x2 : Int32) (x3 : Int32) (x4 : Int32) (x5 : Int32) (st : fb_S), l_M_begin_37 n x1 x2 x3 x4 x5 st = some o → fb_G p l e (headSpec kw_M_begin rm_M_begin).room s m args below meth c (dC, dI) vcl (tM dA) (wM dA a) A (some (.int o.1)) o.2 37 6 [(0, .ref (a 0)), (1, .int x1), (2, .int x2), (3, .int x3), (4, .int x4), (5, .int x5)] [] st := by
  induction n with
  | zero => intro x1 x2 x3 x4 x5 st hF; cases hF
  | succ n ih => intro x1 x2 x3 x4 x5 st hF; exact w_M_begin_37 CX o (l_M_begin_37 n) ih x1 x2 x3 x4 x5 st hF
def b_M_begin_32 (x1 : Int32) (x2 : Int32) (x3 : Int32) (y0 : Int32) (st : fb_S) : Option (Int32 × fb_S) := l_M_begin_37 fb_n x1 x2 x3 y0 x2 st
set_option maxHeartbeats 4000000 in
set_option maxRecDepth 100000 in
theorem w_M_begin_32 {p : Program} {l : Launch} {e : Env} {s : State} {m : MethodId} {args : Array Value} {below : List Frame} {meth : Method} {c : Code} {A : Nat → Prop} {dC : Nat → ClassId} {dI : Nat → Nat → Nat} {dA : Nat → ClassId} {a : Nat → Nat} (CX : fb_C p s m args meth c kc_M_begin (some .int) 6 "FileTreeModel" (dC, dI) vcl (tM dA) A zM) (o : Int32 × fb_S) (x1 : Int32) (x2 : Int32) (x3 : Int32) (y0 : Int32) (st : fb_S) (hF : b_M_begin_32 x1 x2 x3 y0 st = some o) : fb_G p l e (headSpec kw_M_begin rm_M_begin).room s m args below meth c (dC, dI) vcl (tM dA) (wM dA a) A (some (.int o.1)) o.2 32 6 [(0, .ref (a 0)), (1, .int x1), (2, .int x2), (3, .int x3)] [.int y0] st := by
  intro H locs hP hD hS ls hl
  obtain ⟨hx, hb, hr, hml, hown, hts, hK, hA, hlocks, hZ⟩ := id CX
  unfold b_M_begin_32 at hF
  refine lv_istore (lv' := [(4, .int y0), (0, .ref (a 0)), (1, .int x1), (2, .int x2), (3, .int x3)]) hx hb kd_M_begin_32 hl (by decide) rfl (fun ls hl => ?_)
  refine lv_iload_n hx hb kd_M_begin_34 rfl (lv_at hl 3 rfl) ?_
  refine lv_istore (lv' := [(5, .int x2), (4, .int y0), (0, .ref (a 0)), (1, .int x1), (2, .int x2), (3, .int x3)]) hx hb kd_M_begin_35 hl (by decide) rfl (fun ls hl => ?_)
  exact v_M_begin_37 CX o fb_n x1 x2 x3 y0 x2 st hF H locs hP hD hS ls (lv_sub hl [2, 3, 4, 5, 1, 0] rfl)
def b_M_begin_31 (x1 : Int32) (x2 : Int32) (x3 : Int32) (st : fb_S) : Option (Int32 × fb_S) := b_M_begin_32 x1 x2 x3 (0 : Int32) st
set_option maxHeartbeats 4000000 in
set_option maxRecDepth 100000 in
theorem w_M_begin_31 {p : Program} {l : Launch} {e : Env} {s : State} {m : MethodId} {args : Array Value} {below : List Frame} {meth : Method} {c : Code} {A : Nat → Prop} {dC : Nat → ClassId} {dI : Nat → Nat → Nat} {dA : Nat → ClassId} {a : Nat → Nat} (CX : fb_C p s m args meth c kc_M_begin (some .int) 6 "FileTreeModel" (dC, dI) vcl (tM dA) A zM) (o : Int32 × fb_S) (x1 : Int32) (x2 : Int32) (x3 : Int32) (st : fb_S) (hF : b_M_begin_31 x1 x2 x3 st = some o) : fb_G p l e (headSpec kw_M_begin rm_M_begin).room s m args below meth c (dC, dI) vcl (tM dA) (wM dA a) A (some (.int o.1)) o.2 31 6 [(0, .ref (a 0)), (1, .int x1), (2, .int x2), (3, .int x3)] [] st := by
  intro H locs hP hD hS ls hl
  obtain ⟨hx, hb, hr, hml, hown, hts, hK, hA, hlocks, hZ⟩ := id CX
  unfold b_M_begin_31 at hF
  refine lv_iconst (v := 0) hx hb kd_M_begin_31 (by decide) ?_
  exact w_M_begin_32 CX o x1 x2 x3 (0 : Int32) st hF H locs hP hD hS ls (lv_sub hl [0, 1, 2, 3] rfl)
def f_M_begin (x1 : Int32) (x2 : Int32) (x3 : Int32) (st : fb_S) : Option (Int32 × fb_S) := (fb_pf st 16 x2).bind fun s1 => (fb_pf s1 17 x3).bind fun s2 => (if (128 : Int32) < (x3 - x2) then b_M_begin_31 x1 x2 x3 s2 else (f_M_there x1 s2).bind fun r4 => (if r4.1 = (0 : Int32) then b_M_begin_31 x1 x2 x3 r4.2 else b_M_begin_32 x1 x2 x3 (1 : Int32) r4.2))
set_option maxHeartbeats 4000000 in
set_option maxRecDepth 100000 in
theorem w_M_begin_0 {p : Program} {l : Launch} {e : Env} {s : State} {m : MethodId} {args : Array Value} {below : List Frame} {meth : Method} {c : Code} {A : Nat → Prop} {dC : Nat → ClassId} {dI : Nat → Nat → Nat} {dA : Nat → ClassId} {a : Nat → Nat} (CX : fb_C p s m args meth c kc_M_begin (some .int) 6 "FileTreeModel" (dC, dI) vcl (tM dA) A zM) (o : Int32 × fb_S) (x1 : Int32) (x2 : Int32) (x3 : Int32) (st : fb_S) (hF : f_M_begin x1 x2 x3 st = some o) : fb_G p l e (headSpec kw_M_begin rm_M_begin).room s m args below meth c (dC, dI) vcl (tM dA) (wM dA a) A (some (.int o.1)) o.2 0 6 [(0, .ref (a 0)), (1, .int x1), (2, .int x2), (3, .int x3)] [] st := by
  intro H locs hP hD hS ls hl
  obtain ⟨hx, hb, hr, hml, hown, hts, hK, hA, hlocks, hZ⟩ := id CX
  unfold f_M_begin at hF
  refine lv_aload_n hx hb kd_M_begin_0 rfl (lv_at hl 0 rfl) ?_
  refine lv_iload_n hx hb kd_M_begin_1 rfl (lv_at hl 2 rfl) ?_
  obtain ⟨s1, e_s1, hF⟩ := fb_ob hF
  refine va_put (D := (dC, dI)) (ci := 5) (v := .int x2) (ty := .int) (C := "FileTreeModel") (T := ft_M) (N := 18) hx hb hts fi_M fy_M fo_M fn_M hown hK hP hD hS 0 rfl rfl 15 (by decide) (hts _ q_484) (fun _ h9 => h9) rfl (by decide +kernel) rfl rfl (Nat.le_of_ble_eq_true rfl) kd_M_begin_2 (fun H locs hP hD hS => ?_)
  cases e_s1
  obtain ⟨s1, e_s1⟩ : ∃ z : fb_S, z = va_up st 16 (upd (st 16) 0 x2) := ⟨_, rfl⟩
  rw [← e_s1] at hF
  have hP : va_P (dC, dI) vcl ((wM dA a) s1) H := by rw [e_s1]; exact hP
  have hD : va_D A ((wM dA a) s1) := by rw [e_s1]; exact hD
  refine lv_aload_n hx hb kd_M_begin_5 rfl (lv_at hl 0 rfl) ?_
  refine lv_iload_n hx hb kd_M_begin_6 rfl (lv_at hl 3 rfl) ?_
  obtain ⟨s2, e_s2, hF⟩ := fb_ob hF
  refine va_put (D := (dC, dI)) (ci := 5) (v := .int x3) (ty := .int) (C := "FileTreeModel") (T := ft_M) (N := 18) hx hb hts fi_M fy_M fo_M fn_M hown hK hP hD hS 0 rfl rfl 16 (by decide) (hts _ q_485) (fun _ h9 => h9) rfl (by decide +kernel) rfl rfl (Nat.le_of_ble_eq_true rfl) kd_M_begin_7 (fun H locs hP hD hS => ?_)
  cases e_s2
  obtain ⟨s2, e_s2⟩ : ∃ z : fb_S, z = va_up s1 17 (upd (s1 17) 0 x3) := ⟨_, rfl⟩
  rw [← e_s2] at hF
  have hP : va_P (dC, dI) vcl ((wM dA a) s2) H := by rw [e_s2]; exact hP
  have hD : va_D A ((wM dA a) s2) := by rw [e_s2]; exact hD
  refine lv_iload_n hx hb kd_M_begin_10 rfl (lv_at hl 3 rfl) ?_
  refine lv_iload_n hx hb kd_M_begin_11 rfl (lv_at hl 2 rfl) ?_
  refine lv_isub hx hb kd_M_begin_12 ?_
  refine lv_sipush (v := 128) hx hb kd_M_begin_13 (by decide) ?_
  refine lv_icmp_gt (tgt := 31) hx hb kd_M_begin_16 (by decide) (fun c3 => ?_) (fun c3 => ?_)
  · rw [if_pos c3] at hF
    exact w_M_begin_31 CX o x1 x2 x3 s2 hF H locs hP hD hS ls (lv_sub hl [0, 1, 2, 3] rfl)
  · rw [if_neg c3] at hF
    refine lv_aload_n hx hb kd_M_begin_19 rfl (lv_at hl 0 rfl) ?_
    refine lv_iload_n hx hb kd_M_begin_20 rfl (lv_at hl 1 rfl) ?_
    obtain ⟨r4, e_r4, hF⟩ := fb_ob hF
    refine fb_callV (As := [.int x1]) (rest := []) ⟨hx, hb, hml, hown, hts⟩ zM_mv hZ hK hP hD hS hA (c_M_there l dC dI dA a x1 s2 r4 e_r4) (cwV 1 hts (gd_V q_546 ko_M_there) rfl rfl rfl kh_M_there ⟨Nat.le_of_ble_eq_true rfl, Nat.le_of_ble_eq_true rfl⟩) 5 0 rfl rfl rfl rfl hl.1 rfl (Nat.le_of_ble_eq_true rfl) kd_M_begin_21 ⟨Nat.zero_le _, Nat.zero_le _⟩ (fun H locs hP hD hS => ?_)
    refine W.eq (g2 := F0 m 24 ls [.int r4.1]) rfl ?_
    refine lv_if_eq (tgt := 31) hx hb kd_M_begin_24 (by decide) (fun c5 => ?_) (fun c5 => ?_)
    · rw [if_pos c5] at hF
      exact w_M_begin_31 CX o x1 x2 x3 r4.2 hF H locs hP hD hS ls (lv_sub hl [0, 1, 2, 3] rfl)
    · rw [if_neg c5] at hF
      refine lv_iconst (v := 1) hx hb kd_M_begin_27 (by decide) ?_
      refine lv_goto (tgt := 32) hx hb kd_M_begin_28 (by decide) ?_
      exact w_M_begin_32 CX o x1 x2 x3 (1 : Int32) r4.2 hF H locs hP hD hS ls (lv_sub hl [0, 1, 2, 3] rfl)
theorem c_M_begin (l : Launch) (dC : Nat → ClassId) (dI : Nat → Nat → Nat) (dA : Nat → ClassId) (a : Nat → Nat) (x1 : Int32) (x2 : Int32) (x3 : Int32) (st : fb_S) (o : Int32 × fb_S) (h : f_M_begin x1 x2 x3 st = some o) : fb_M l ky_M_begin kw_M_begin rm_M_begin (dC, dI) vcl (tM dA) (wM dA a) zM [.ref (a 0), .int x1, .int x2, .int x3] (some (.int o.1)) st o.2 := fb_enter (by decide) rfl (Nat.le_of_ble_eq_true rfl) (fun p e s m below meth c A CX hP hD hS ls hl => w_M_begin_0 CX o x1 x2 x3 st h s.heap [] hP hD hS ls hl)
abbrev rm_M_slashes : Room := { frames := 0, cells := 0, slots := 0, locals := 0 }
def b_M_slashes_0 (k0 : fb_S → Option (Int32 × fb_S)) (st : fb_S) : Option (Int32 × fb_S) := (if (st 17 0) ≤ (st 16 0) then some (0, st) else (fb_ld (st 0) 260 (st 16 0)).bind fun v2 => (if v2 = (47 : Int32) then (fb_pf st 16 ((st 16 0) + (1 : Int32))).bind fun s4 => k0 s4 else some (0, st)))
set_option maxHeartbeats 4000000 in
set_option maxRecDepth 100000 in
theorem w_M_slashes_0 {p : Program} {l : Launch} {e : Env} {s : State} {m : MethodId} {args : Array Value} {below : List Frame} {meth : Method} {c : Code} {A : Nat → Prop} {dC : Nat → ClassId} {dI : Nat → Nat → Nat} {dA : Nat → ClassId} {a : Nat → Nat} (CX : fb_C p s m args meth c kc_M_slashes none 1 "FileTreeModel" (dC, dI) vcl (tM dA) A zM) (o : Int32 × fb_S) (k0 : fb_S → Option (Int32 × fb_S)) (hk0 : ∀ (st : fb_S), k0 st = some o → fb_G p l e (headSpec kw_M_slashes rm_M_slashes).room s m args below meth c (dC, dI) vcl (tM dA) (wM dA a) A none o.2 0 1 [(0, .ref (a 0))] [] st) (st : fb_S) (hF : b_M_slashes_0 k0 st = some o) : fb_G p l e (headSpec kw_M_slashes rm_M_slashes).room s m args below meth c (dC, dI) vcl (tM dA) (wM dA a) A none o.2 0 1 [(0, .ref (a 0))] [] st := by
  intro H locs hP hD hS ls hl
  obtain ⟨hx, hb, hr, hml, hown, hts, hK, hA, hlocks, hZ⟩ := id CX
  unfold b_M_slashes_0 at hF
  refine lv_aload_n hx hb kd_M_slashes_0 rfl (lv_at hl 0 rfl) ?_
  refine va_get (D := (dC, dI)) (ci := 5) (v := .int (st 16 0)) (C := "FileTreeModel") (T := ft_M) (N := 18) hx hb hts fi_M hown hK hP 0 rfl rfl 15 (by decide) (hts _ q_484) (fun _ h9 => h9) rfl kd_M_slashes_1 ?_
  refine lv_aload_n hx hb kd_M_slashes_4 rfl (lv_at hl 0 rfl) ?_
  refine va_get (D := (dC, dI)) (ci := 5) (v := .int (st 17 0)) (C := "FileTreeModel") (T := ft_M) (N := 18) hx hb hts fi_M hown hK hP 0 rfl rfl 16 (by decide) (hts _ q_485) (fun _ h9 => h9) rfl kd_M_slashes_5 ?_
  refine lv_icmp_ge (tgt := 38) hx hb kd_M_slashes_8 (by decide) (fun c1 => ?_) (fun c1 => ?_)
  · rw [if_pos c1] at hF
    exact fb_rv (o := o) hx hb hr hlocks hK hP hD hS hF kd_M_slashes_38
  · rw [if_neg c1] at hF
    refine lv_aload_n hx hb kd_M_slashes_11 rfl (lv_at hl 0 rfl) ?_
    refine va_get (D := (dC, dI)) (ci := 5) (v := .ref (a 1)) (C := "FileTreeModel") (T := ft_M) (N := 18) hx hb hts fi_M hown hK hP 0 rfl rfl 2 (by decide) (hts _ q_471) (fun _ h9 => h9) rfl kd_M_slashes_12 ?_
    refine lv_aload_n hx hb kd_M_slashes_15 rfl (lv_at hl 0 rfl) ?_
    refine va_get (D := (dC, dI)) (ci := 5) (v := .int (st 16 0)) (C := "FileTreeModel") (T := ft_M) (N := 18) hx hb hts fi_M hown hK hP 0 rfl rfl 15 (by decide) (hts _ q_484) (fun _ h9 => h9) rfl kd_M_slashes_16 ?_
    obtain ⟨v2, e_v2, hF⟩ := fb_ob hF
    refine fb_bald hx hb hK hP 1 1 rfl rfl e_v2 kd_M_slashes_19 ?_
    refine lv_bipush (v := 47) hx hb kd_M_slashes_20 (by decide) ?_
    refine lv_icmp_ne (tgt := 38) hx hb kd_M_slashes_22 (by decide) (fun c3 => ?_) (fun c3 => ?_)
    · rw [if_neg c3] at hF
      exact fb_rv (o := o) hx hb hr hlocks hK hP hD hS hF kd_M_slashes_38
    · rw [if_pos c3] at hF
      refine lv_aload_n hx hb kd_M_slashes_25 rfl (lv_at hl 0 rfl) ?_
      refine lv_dup hx hb kd_M_slashes_26 rfl ?_
      refine va_get (D := (dC, dI)) (ci := 5) (v := .int (st 16 0)) (C := "FileTreeModel") (T := ft_M) (N := 18) hx hb hts fi_M hown hK hP 0 rfl rfl 15 (by decide) (hts _ q_484) (fun _ h9 => h9) rfl kd_M_slashes_27 ?_
      refine lv_iconst (v := 1) hx hb kd_M_slashes_30 (by decide) ?_
      refine lv_iadd hx hb kd_M_slashes_31 ?_
      obtain ⟨s4, e_s4, hF⟩ := fb_ob hF
      refine va_put (D := (dC, dI)) (ci := 5) (v := .int ((st 16 0) + (1 : Int32))) (ty := .int) (C := "FileTreeModel") (T := ft_M) (N := 18) hx hb hts fi_M fy_M fo_M fn_M hown hK hP hD hS 0 rfl rfl 15 (by decide) (hts _ q_484) (fun _ h9 => h9) rfl (by decide +kernel) rfl rfl (Nat.le_of_ble_eq_true rfl) kd_M_slashes_32 (fun H locs hP hD hS => ?_)
      cases e_s4
      obtain ⟨s4, e_s4⟩ : ∃ z : fb_S, z = va_up st 16 (upd (st 16) 0 ((st 16 0) + (1 : Int32))) := ⟨_, rfl⟩
      rw [← e_s4] at hF
      have hP : va_P (dC, dI) vcl ((wM dA a) s4) H := by rw [e_s4]; exact hP
      have hD : va_D A ((wM dA a) s4) := by rw [e_s4]; exact hD
      refine lv_goto (tgt := 0) hx hb kd_M_slashes_35 (by decide) ?_
      exact hk0 s4 hF H locs hP hD hS ls (lv_sub hl [0] rfl)
def l_M_slashes_0 : Nat → fb_S → Option (Int32 × fb_S)
  | 0 => fun _ => none
  | n + 1 => b_M_slashes_0 (l_M_slashes_0 n)
theorem v_M_slashes_0 {p : Program} {l : Launch} {e : Env} {s : State} {m : MethodId} {args : Array Value} {below : List Frame} {meth : Method} {c : Code} {A : Nat → Prop} {dC : Nat → ClassId} {dI : Nat → Nat → Nat} {dA : Nat → ClassId} {a : Nat → Nat} (CX : fb_C p s m args meth c kc_M_slashes none 1 "FileTreeModel" (dC, dI) vcl (tM dA) A zM) (o : Int32 × fb_S) (n : Nat) : ∀ (st : fb_S), l_M_slashes_0 n st = some o → fb_G p l e (headSpec kw_M_slashes rm_M_slashes).room s m args below meth c (dC, dI) vcl (tM dA) (wM dA a) A none o.2 0 1 [(0, .ref (a 0))] [] st := by
  induction n with
  | zero => intro st hF; cases hF
  | succ n ih => intro st hF; exact w_M_slashes_0 CX o (l_M_slashes_0 n) ih st hF
def f_M_slashes (st : fb_S) : Option (Int32 × fb_S) := l_M_slashes_0 fb_n st
theorem c_M_slashes (l : Launch) (dC : Nat → ClassId) (dI : Nat → Nat → Nat) (dA : Nat → ClassId) (a : Nat → Nat) (st : fb_S) (o : Int32 × fb_S) (h : f_M_slashes st = some o) : fb_M l ky_M_slashes kw_M_slashes rm_M_slashes (dC, dI) vcl (tM dA) (wM dA a) zM [.ref (a 0)] none st o.2 := fb_enter (by decide) rfl (Nat.le_of_ble_eq_true rfl) (fun p e s m below meth c A CX hP hD hS ls hl => v_M_slashes_0 CX o fb_n st h s.heap [] hP hD hS ls (lv_sub hl [0] rfl))
