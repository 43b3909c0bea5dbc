abbrev rm_M_empty : Room := { frames := 0, cells := 0, slots := 0, locals := 0 }
def b_M_empty_95 (x1 : Int32) (st : fb_S) : Option (Int32 × fb_S) := (fb_st st 10 64 x1 (0 : Int32)).bind fun s1 => (fb_st s1 8 64 x1 (0 : Int32)).bind fun s2 => some (0, s2)
set_option maxHeartbeats 4000000 in
set_option maxRecDepth 100000 in
theorem w_M_empty_95 {p : Program} {l : Launch} {e : Env} {s : State} {m : MethodId} {args : Array Value} {below : List Frame} {meth : Method} {c : Code} {A : Nat → Prop} {dC : Nat → ClassId} {dI : Nat → Nat → Nat} {dA : Nat → ClassId} {a : Nat → Nat} (CX : fb_C p s m args meth c kc_M_empty none 3 "FileTreeModel" (dC, dI) vcl (tM dA) A zM) (o : Int32 × fb_S) (x1 : Int32) (st : fb_S) (hF : b_M_empty_95 x1 st = some o) : fb_G p l e (headSpec kw_M_empty rm_M_empty).room s m args below meth c (dC, dI) vcl (tM dA) (wM dA a) A none o.2 95 3 [(0, .ref (a 0)), (1, .int x1)] [] st := by
  intro H locs hP hD hS ls hl
  obtain ⟨hx, hb, hr, hml, hown, hts, hK, hA, hlocks, hZ⟩ := id CX
  unfold b_M_empty_95 at hF
  refine lv_aload_n hx hb kd_M_empty_95 rfl (lv_at hl 0 rfl) ?_
  refine va_get (D := (dC, dI)) (ci := 5) (v := .ref (a 11)) (C := "FileTreeModel") (T := ft_M) (N := 18) hx hb hts fi_M hown hK hP 0 rfl rfl 12 (by decide) (hts _ q_481) (fun _ h9 => h9) rfl kd_M_empty_96 ?_
  refine lv_iload_n hx hb kd_M_empty_99 rfl (lv_at hl 1 rfl) ?_
  refine lv_iconst (v := 0) hx hb kd_M_empty_100 (by decide) ?_
  obtain ⟨s1, e_s1, hF⟩ := fb_ob hF
  refine fb_iast (wx := (wM dA a)) (k := 10) hx hb hK hP hD hS 11 0 rfl rfl e_s1 (fun _ => rfl) kd_M_empty_101 (fun H locs hP hD hS => ?_)
  refine lv_aload_n hx hb kd_M_empty_102 rfl (lv_at hl 0 rfl) ?_
  refine va_get (D := (dC, dI)) (ci := 5) (v := .ref (a 9)) (C := "FileTreeModel") (T := ft_M) (N := 18) hx hb hts fi_M hown hK hP 0 rfl rfl 10 (by decide) (hts _ q_479) (fun _ h9 => h9) rfl kd_M_empty_103 ?_
  refine lv_iload_n hx hb kd_M_empty_106 rfl (lv_at hl 1 rfl) ?_
  refine lv_iconst (v := 0) hx hb kd_M_empty_107 (by decide) ?_
  obtain ⟨s2, e_s2, hF⟩ := fb_ob hF
  refine fb_iast (wx := (wM dA a)) (k := 8) hx hb hK hP hD hS 9 0 rfl rfl e_s2 (fun _ => rfl) kd_M_empty_108 (fun H locs hP hD hS => ?_)
  exact fb_rv (o := o) hx hb hr hlocks hK hP hD hS hF kd_M_empty_109
def b_M_empty_2 (k2 : Int32 → Int32 → fb_S → Option (Int32 × fb_S)) (x1 : Int32) (x2 : Int32) (st : fb_S) : Option (Int32 × fb_S) := (fb_ld (st 10) 64 x1).bind fun v1 => (if v1 ≤ x2 then (fb_ld (st 10) 64 x1).bind fun v3 => (if v3 ≤ (12 : Int32) then b_M_empty_95 x1 st else (fb_ld (st 11) 17216 (((269 : Int32) * x1) + (268 : Int32))).bind fun v5 => (fb_st st 3 512 v5 ((0 : Int32) &&& 1)).bind fun s6 => (fb_st s6 11 17216 (((269 : Int32) * x1) + (268 : Int32)) (0 : Int32)).bind fun s7 => b_M_empty_95 x1 s7) else (fb_ld (st 11) 17216 (((269 : Int32) * x1) + x2)).bind fun v8 => (fb_st st 3 512 v8 ((0 : Int32) &&& 1)).bind fun s9 => (fb_st s9 11 17216 (((269 : Int32) * x1) + x2) (0 : Int32)).bind fun s10 => k2 x1 (x2 + (1 : Int32)) s10)
set_option maxHeartbeats 4000000 in
set_option maxRecDepth 100000 in
theorem w_M_empty_2 {p : Program} {l : Launch} {e : Env} {s : State} {m : MethodId} {args : Array Value} {below : List Frame} {meth : Method} {c : Code} {A : Nat → Prop} {dC : Nat → ClassId} {dI : Nat → Nat → Nat} {dA : Nat → ClassId} {a : Nat → Nat} (CX : fb_C p s m args meth c kc_M_empty none 3 "FileTreeModel" (dC, dI) vcl (tM dA) A zM) (o : Int32 × fb_S) (k2 : Int32 → Int32 → fb_S → Option (Int32 × fb_S)) (hk2 : ∀ (x1 : Int32) (x2 : Int32) (st : fb_S), k2 x1 x2 st = some o → fb_G p l e (headSpec kw_M_empty rm_M_empty).room s m args below meth c (dC, dI) vcl (tM dA) (wM dA a) A none o.2 2 3 [(0, .ref (a 0)), (1, .int x1), (2, .int x2)] [] st) (x1 : Int32) (x2 : Int32) (st : fb_S) (hF : b_M_empty_2 k2 x1 x2 st = some o) : fb_G p l e (headSpec kw_M_empty rm_M_empty).room s m args below meth c (dC, dI) vcl (tM dA) (wM dA a) A none o.2 2 3 [(0, .ref (a 0)), (1, .int x1), (2, .int x2)] [] st := by
  intro H locs hP hD hS ls hl
  obtain ⟨hx, hb, hr, hml, hown, hts, hK, hA, hlocks, hZ⟩ := id CX
  unfold b_M_empty_2 at hF
  refine lv_iload_n hx hb kd_M_empty_2 rfl (lv_at hl 2 rfl) ?_
  refine lv_aload_n hx hb kd_M_empty_3 rfl (lv_at hl 0 rfl) ?_
  refine va_get (D := (dC, dI)) (ci := 5) (v := .ref (a 11)) (C := "FileTreeModel") (T := ft_M) (N := 18) hx hb hts fi_M hown hK hP 0 rfl rfl 12 (by decide) (hts _ q_481) (fun _ h9 => h9) rfl kd_M_empty_4 ?_
  refine lv_iload_n hx hb kd_M_empty_7 rfl (lv_at hl 1 rfl) ?_
  obtain ⟨v1, e_v1, hF⟩ := fb_ob hF
  refine fb_iald hx hb hK hP 11 0 rfl rfl e_v1 kd_M_empty_8 ?_
  refine lv_icmp_ge (tgt := 49) hx hb kd_M_empty_9 (by decide) (fun c2 => ?_) (fun c2 => ?_)
  · rw [if_pos c2] at hF
    refine lv_aload_n hx hb kd_M_empty_49 rfl (lv_at hl 0 rfl) ?_
    refine va_get (D := (dC, dI)) (ci := 5) (v := .ref (a 11)) (C := "FileTreeModel") (T := ft_M) (N := 18) hx hb hts fi_M hown hK hP 0 rfl rfl 12 (by decide) (hts _ q_481) (fun _ h9 => h9) rfl kd_M_empty_50 ?_
    refine lv_iload_n hx hb kd_M_empty_53 rfl (lv_at hl 1 rfl) ?_
    obtain ⟨v3, e_v3, hF⟩ := fb_ob hF
    refine fb_iald hx hb hK hP 11 0 rfl rfl e_v3 kd_M_empty_54 ?_
    refine lv_bipush (v := 12) hx hb kd_M_empty_55 (by decide) ?_
    refine lv_icmp_le (tgt := 95) hx hb kd_M_empty_57 (by decide) (fun c4 => ?_) (fun c4 => ?_)
    · rw [if_pos c4] at hF
      exact w_M_empty_95 CX o x1 st hF H locs hP hD hS ls (lv_sub hl [0, 1] rfl)
    · rw [if_neg c4] at hF
      refine lv_aload_n hx hb kd_M_empty_60 rfl (lv_at hl 0 rfl) ?_
      refine va_get (D := (dC, dI)) (ci := 5) (v := .ref (a 4)) (C := "FileTreeModel") (T := ft_M) (N := 18) hx hb hts fi_M hown hK hP 0 rfl rfl 5 (by decide) (hts _ q_474) (fun _ h9 => h9) rfl kd_M_empty_61 ?_
      refine lv_aload_n hx hb kd_M_empty_64 rfl (lv_at hl 0 rfl) ?_
      refine va_get (D := (dC, dI)) (ci := 5) (v := .ref (a 12)) (C := "FileTreeModel") (T := ft_M) (N := 18) hx hb hts fi_M hown hK hP 0 rfl rfl 13 (by decide) (hts _ q_482) (fun _ h9 => h9) rfl kd_M_empty_65 ?_
      refine lv_sipush (v := 269) hx hb kd_M_empty_68 (by decide) ?_
      refine lv_iload_n hx hb kd_M_empty_71 rfl (lv_at hl 1 rfl) ?_
      refine lv_imul hx hb kd_M_empty_72 ?_
      refine lv_sipush (v := 268) hx hb kd_M_empty_73 (by decide) ?_
      refine lv_iadd hx hb kd_M_empty_76 ?_
      obtain ⟨v5, e_v5, hF⟩ := fb_ob hF
      refine fb_iald hx hb hK hP 12 0 rfl rfl e_v5 kd_M_empty_77 ?_
      refine lv_iconst (v := 0) hx hb kd_M_empty_78 (by decide) ?_
      obtain ⟨s6, e_s6, hF⟩ := fb_ob hF
      refine fb_zast (wx := (wM dA a)) (k := 3) hx hb hK hP hD hS 4 2 rfl rfl e_s6 (fun _ => rfl) kd_M_empty_79 (fun H locs hP hD hS => ?_)
      refine lv_aload_n hx hb kd_M_empty_80 rfl (lv_at hl 0 rfl) ?_
      refine va_get (D := (dC, dI)) (ci := 5) (v := .ref (a 12)) (C := "FileTreeModel") (T := ft_M) (N := 18) hx hb hts fi_M hown hK hP 0 rfl rfl 13 (by decide) (hts _ q_482) (fun _ h9 => h9) rfl kd_M_empty_81 ?_
      refine lv_sipush (v := 269) hx hb kd_M_empty_84 (by decide) ?_
      refine lv_iload_n hx hb kd_M_empty_87 rfl (lv_at hl 1 rfl) ?_
      refine lv_imul hx hb kd_M_empty_88 ?_
      refine lv_sipush (v := 268) hx hb kd_M_empty_89 (by decide) ?_
      refine lv_iadd hx hb kd_M_empty_92 ?_
      refine lv_iconst (v := 0) hx hb kd_M_empty_93 (by decide) ?_
      obtain ⟨s7, e_s7, hF⟩ := fb_ob hF
      refine fb_iast (wx := (wM dA a)) (k := 11) hx hb hK hP hD hS 12 0 rfl rfl e_s7 (fun _ => rfl) kd_M_empty_94 (fun H locs hP hD hS => ?_)
      exact w_M_empty_95 CX o x1 s7 hF H locs hP hD hS ls (lv_sub hl [0, 1] rfl)
  · rw [if_neg c2] at hF
    refine lv_aload_n hx hb kd_M_empty_12 rfl (lv_at hl 0 rfl) ?_
    refine va_get (D := (dC, dI)) (ci := 5) (v := .ref (a 4)) (C := "FileTreeModel") (T := ft_M) (N := 18) hx hb hts fi_M hown hK hP 0 rfl rfl 5 (by decide) (hts _ q_474) (fun _ h9 => h9) rfl kd_M_empty_13 ?_
    refine lv_aload_n hx hb kd_M_empty_16 rfl (lv_at hl 0 rfl) ?_
    refine va_get (D := (dC, dI)) (ci := 5) (v := .ref (a 12)) (C := "FileTreeModel") (T := ft_M) (N := 18) hx hb hts fi_M hown hK hP 0 rfl rfl 13 (by decide) (hts _ q_482) (fun _ h9 => h9) rfl kd_M_empty_17 ?_
    refine lv_sipush (v := 269) hx hb kd_M_empty_20 (by decide) ?_
    refine lv_iload_n hx hb kd_M_empty_23 rfl (lv_at hl 1 rfl) ?_
    refine lv_imul hx hb kd_M_empty_24 ?_
    refine lv_iload_n hx hb kd_M_empty_25 rfl (lv_at hl 2 rfl) ?_
    refine lv_iadd hx hb kd_M_empty_26 ?_
    obtain ⟨v8, e_v8, hF⟩ := fb_ob hF
    refine fb_iald hx hb hK hP 12 0 rfl rfl e_v8 kd_M_empty_27 ?_
    refine lv_iconst (v := 0) hx hb kd_M_empty_28 (by decide) ?_
    obtain ⟨s9, e_s9, hF⟩ := fb_ob hF
    refine fb_zast (wx := (wM dA a)) (k := 3) hx hb hK hP hD hS 4 2 rfl rfl e_s9 (fun _ => rfl) kd_M_empty_29 (fun H locs hP hD hS => ?_)
    refine lv_aload_n hx hb kd_M_empty_30 rfl (lv_at hl 0 rfl) ?_
    refine va_get (D := (dC, dI)) (ci := 5) (v := .ref (a 12)) (C := "FileTreeModel") (T := ft_M) (N := 18) hx hb hts fi_M hown hK hP 0 rfl rfl 13 (by decide) (hts _ q_482) (fun _ h9 => h9) rfl kd_M_empty_31 ?_
    refine lv_sipush (v := 269) hx hb kd_M_empty_34 (by decide) ?_
    refine lv_iload_n hx hb kd_M_empty_37 rfl (lv_at hl 1 rfl) ?_
    refine lv_imul hx hb kd_M_empty_38 ?_
    refine lv_iload_n hx hb kd_M_empty_39 rfl (lv_at hl 2 rfl) ?_
    refine lv_iadd hx hb kd_M_empty_40 ?_
    refine lv_iconst (v := 0) hx hb kd_M_empty_41 (by decide) ?_
    obtain ⟨s10, e_s10, hF⟩ := fb_ob hF
    refine fb_iast (wx := (wM dA a)) (k := 11) hx hb hK hP hD hS 12 0 rfl rfl e_s10 (fun _ => rfl) kd_M_empty_42 (fun H locs hP hD hS => ?_)
    refine lv_iinc (v := x2 + (1 : Int32)) (lv' := [(2, .int (x2 + (1 : Int32))), (0, .ref (a 0)), (1, .int x1)]) hx hb kd_M_empty_43 hl (k := 2) rfl rfl (by decide) rfl (fun ls hl => ?_)
    refine lv_goto (tgt := 2) hx hb kd_M_empty_46 (by decide) ?_
    exact hk2 x1 (x2 + (1 : Int32)) s10 hF H locs hP hD hS ls (lv_sub hl [1, 2, 0] rfl)
def l_M_empty_2 : Nat → Int32 → Int32 → fb_S → Option (Int32 × fb_S)
  | 0 => fun _ _ _ => none
  | n + 1 => b_M_empty_2 (l_M_empty_2 n)
theorem v_M_empty_2 {p : Program} {l : Launch} {e : Env} {s : State} {m : MethodId} {args : Array Value} {below : List Frame} {meth : Method} {c : Code} {A : Nat → Prop} {dC : Nat → ClassId} {dI : Nat → Nat → Nat} {dA : Nat → ClassId} {a : Nat → Nat} (CX : fb_C p s m args meth c kc_M_empty none 3 "FileTreeModel" (dC, dI) vcl (tM dA) A zM) (o : Int32 × fb_S) (n : Nat) : ∀ (x1 : Int32) (x2 : Int32) (st : fb_S), l_M_empty_2 n x1 x2 st = some o → fb_G p l e (headSpec kw_M_empty rm_M_empty).room s m args below meth c (dC, dI) vcl (tM dA) (wM dA a) A none o.2 2 3 [(0, .ref (a 0)), (1, .int x1), (2, .int x2)] [] st := by
  induction n with
  | zero => intro x1 x2 st hF; cases hF
  | succ n ih => intro x1 x2 st hF; exact w_M_empty_2 CX o (l_M_empty_2 n) ih x1 x2 st hF
def f_M_empty (x1 : Int32) (st : fb_S) : Option (Int32 × fb_S) := l_M_empty_2 fb_n x1 (0 : Int32) st
set_option maxHeartbeats 4000000 in
set_option maxRecDepth 100000 in
theorem w_M_empty_0 {p : Program} {l : Launch} {e : Env} {s : State} {m : MethodId} {args : Array Value} {below : List Frame} {meth : Method} {c : Code} {A : Nat → Prop} {dC : Nat → ClassId} {dI : Nat → Nat → Nat} {dA : Nat → ClassId} {a : Nat → Nat} (CX : fb_C p s m args meth c kc_M_empty none 3 "FileTreeModel" (dC, dI) vcl (tM dA) A zM) (o : Int32 × fb_S) (x1 : Int32) (st : fb_S) (hF : f_M_empty x1 st = some o) : fb_G p l e (headSpec kw_M_empty rm_M_empty).room s m args below meth c (dC, dI) vcl (tM dA) (wM dA a) A none o.2 0 3 [(0, .ref (a 0)), (1, .int x1)] [] st := by
  intro H locs hP hD hS ls hl
  obtain ⟨hx, hb, hr, hml, hown, hts, hK, hA, hlocks, hZ⟩ := id CX
  unfold f_M_empty at hF
  refine lv_iconst (v := 0) hx hb kd_M_empty_0 (by decide) ?_
  refine lv_istore_n (lv' := [(2, .int (0 : Int32)), (0, .ref (a 0)), (1, .int x1)]) hx hb kd_M_empty_1 rfl hl (by decide) rfl (fun ls hl => ?_)
  exact v_M_empty_2 CX o fb_n x1 (0 : Int32) st hF H locs hP hD hS ls (lv_sub hl [1, 2, 0] rfl)
theorem c_M_empty (l : Launch) (dC : Nat → ClassId) (dI : Nat → Nat → Nat) (dA : Nat → ClassId) (a : Nat → Nat) (x1 : Int32) (st : fb_S) (o : Int32 × fb_S) (h : f_M_empty x1 st = some o) : fb_M l ky_M_empty kw_M_empty rm_M_empty (dC, dI) vcl (tM dA) (wM dA a) zM [.ref (a 0), .int x1] none st o.2 := fb_enter (by decide) rfl (Nat.le_of_ble_eq_true rfl) (fun p e s m below meth c A CX hP hD hS ls hl => w_M_empty_0 CX o x1 st h s.heap [] hP hD hS ls hl)
abbrev rm_M_ends : Room := { frames := 1, cells := 0, slots := 0, locals := 22 }
def f_M_ends (x1 : Int32) (st : fb_S) : Option (Int32 × fb_S) := (fb_ld (st 4) 64 x1).bind fun v1 => (if v1 = (0 : Int32) then fb_rz (0 : Int32) st else (fb_ld (st 7) 64 x1).bind fun v3 => (if (0 : Int32) < v3 then fb_rz (0 : Int32) st else (fb_ld (st 9) 64 x1).bind fun v5 => (if v5 ≤ (0 : Int32) then (f_M_empty x1 st).bind fun r7 => (fb_st r7.2 4 64 x1 (0 : Int32)).bind fun s8 => (fb_st s8 5 64 x1 (0 : Int32)).bind fun s9 => (fb_st s9 6 64 x1 (0 : Int32)).bind fun s10 => fb_rz (1 : Int32) s10 else fb_rz (0 : Int32) st)))
set_option maxHeartbeats 4000000 in
set_option maxRecDepth 100000 in
theorem w_M_ends_0 {p : Program} {l : Launch} {e : Env} {s : State} {m : MethodId} {args : Array Value} {below : List Frame} {meth : Method} {c : Code} {A : Nat → Prop} {dC : Nat → ClassId} {dI : Nat → Nat → Nat} {dA : Nat → ClassId} {a : Nat → Nat} (CX : fb_C p s m args meth c kc_M_ends (some .boolean) 2 "FileTreeModel" (dC, dI) vcl (tM dA) A zM) (o : Int32 × fb_S) (x1 : Int32) (st : fb_S) (hF : f_M_ends x1 st = some o) : fb_G p l e (headSpec kw_M_ends rm_M_ends).room s m args below meth c (dC, dI) vcl (tM dA) (wM dA a) A (some (.int o.1)) o.2 0 2 [(0, .ref (a 0)), (1, .int x1)] [] st := by
  intro H locs hP hD hS ls hl
  obtain ⟨hx, hb, hr, hml, hown, hts, hK, hA, hlocks, hZ⟩ := id CX
  unfold f_M_ends at hF
  refine lv_aload_n hx hb kd_M_ends_0 rfl (lv_at hl 0 rfl) ?_
  refine va_get (D := (dC, dI)) (ci := 5) (v := .ref (a 5)) (C := "FileTreeModel") (T := ft_M) (N := 18) hx hb hts fi_M hown hK hP 0 rfl rfl 6 (by decide) (hts _ q_475) (fun _ h9 => h9) rfl kd_M_ends_1 ?_
  refine lv_iload_n hx hb kd_M_ends_4 rfl (lv_at hl 1 rfl) ?_
  obtain ⟨v1, e_v1, hF⟩ := fb_ob hF
  refine fb_iald hx hb hK hP 5 0 rfl rfl e_v1 kd_M_ends_5 ?_
  refine lv_if_eq (tgt := 27) hx hb kd_M_ends_6 (by decide) (fun c2 => ?_) (fun c2 => ?_)
  · rw [if_pos c2] at hF
    refine lv_iconst (v := 0) hx hb kd_M_ends_27 (by decide) ?_
    exact fb_rb (o := o) hx hb hr hlocks hK hP hD hS hF kd_M_ends_28
  · rw [if_neg c2] at hF
    refine lv_aload_n hx hb kd_M_ends_9 rfl (lv_at hl 0 rfl) ?_
    refine va_get (D := (dC, dI)) (ci := 5) (v := .ref (a 8)) (C := "FileTreeModel") (T := ft_M) (N := 18) hx hb hts fi_M hown hK hP 0 rfl rfl 9 (by decide) (hts _ q_478) (fun _ h9 => h9) rfl kd_M_ends_10 ?_
    refine lv_iload_n hx hb kd_M_ends_13 rfl (lv_at hl 1 rfl) ?_
    obtain ⟨v3, e_v3, hF⟩ := fb_ob hF
    refine fb_iald hx hb hK hP 8 0 rfl rfl e_v3 kd_M_ends_14 ?_
    refine lv_if_gt (tgt := 27) hx hb kd_M_ends_15 (by decide) (fun c4 => ?_) (fun c4 => ?_)
    · rw [if_pos c4] at hF
      refine lv_iconst (v := 0) hx hb kd_M_ends_27 (by decide) ?_
      exact fb_rb (o := o) hx hb hr hlocks hK hP hD hS hF kd_M_ends_28
    · rw [if_neg c4] at hF
      refine lv_aload_n hx hb kd_M_ends_18 rfl (lv_at hl 0 rfl) ?_
      refine va_get (D := (dC, dI)) (ci := 5) (v := .ref (a 10)) (C := "FileTreeModel") (T := ft_M) (N := 18) hx hb hts fi_M hown hK hP 0 rfl rfl 11 (by decide) (hts _ q_480) (fun _ h9 => h9) rfl kd_M_ends_19 ?_
      refine lv_iload_n hx hb kd_M_ends_22 rfl (lv_at hl 1 rfl) ?_
      obtain ⟨v5, e_v5, hF⟩ := fb_ob hF
      refine fb_iald hx hb hK hP 10 0 rfl rfl e_v5 kd_M_ends_23 ?_
      refine lv_if_le (tgt := 29) hx hb kd_M_ends_24 (by decide) (fun c6 => ?_) (fun c6 => ?_)
      · rw [if_pos c6] at hF
        refine lv_aload_n hx hb kd_M_ends_29 rfl (lv_at hl 0 rfl) ?_
        refine lv_iload_n hx hb kd_M_ends_30 rfl (lv_at hl 1 rfl) ?_
        obtain ⟨r7, e_r7, hF⟩ := fb_ob hF
        refine fb_callV (As := [.int x1]) (rest := []) ⟨hx, hb, hml, hown, hts⟩ zM_mv hZ hK hP hD hS hA (c_M_empty l dC dI dA a x1 st r7 e_r7) (cwV 1 hts (gd_V q_631 ko_M_empty) rfl rfl rfl kh_M_empty ⟨Nat.le_of_ble_eq_true rfl, Nat.le_of_ble_eq_true rfl⟩) 5 0 rfl rfl rfl rfl hl.1 rfl (Nat.le_of_ble_eq_true rfl) kd_M_ends_31 ⟨Nat.zero_le _, Nat.zero_le _⟩ (fun H locs hP hD hS => ?_)
        refine W.eq (g2 := F0 m 34 ls []) rfl ?_
        refine lv_aload_n hx hb kd_M_ends_34 rfl (lv_at hl 0 rfl) ?_
        refine va_get (D := (dC, dI)) (ci := 5) (v := .ref (a 5)) (C := "FileTreeModel") (T := ft_M) (N := 18) hx hb hts fi_M hown hK hP 0 rfl rfl 6 (by decide) (hts _ q_475) (fun _ h9 => h9) rfl kd_M_ends_35 ?_
        refine lv_iload_n hx hb kd_M_ends_38 rfl (lv_at hl 1 rfl) ?_
        refine lv_iconst (v := 0) hx hb kd_M_ends_39 (by decide) ?_
        obtain ⟨s8, e_s8, hF⟩ := fb_ob hF
        refine fb_iast (wx := (wM dA a)) (k := 4) hx hb hK hP hD hS 5 0 rfl rfl e_s8 (fun _ => rfl) kd_M_ends_40 (fun H locs hP hD hS => ?_)
        refine lv_aload_n hx hb kd_M_ends_41 rfl (lv_at hl 0 rfl) ?_
        refine va_get (D := (dC, dI)) (ci := 5) (v := .ref (a 6)) (C := "FileTreeModel") (T := ft_M) (N := 18) hx hb hts fi_M hown hK hP 0 rfl rfl 7 (by decide) (hts _ q_476) (fun _ h9 => h9) rfl kd_M_ends_42 ?_
        refine lv_iload_n hx hb kd_M_ends_45 rfl (lv_at hl 1 rfl) ?_
        refine lv_iconst (v := 0) hx hb kd_M_ends_46 (by decide) ?_
        obtain ⟨s9, e_s9, hF⟩ := fb_ob hF
        refine fb_iast (wx := (wM dA a)) (k := 5) hx hb hK hP hD hS 6 0 rfl rfl e_s9 (fun _ => rfl) kd_M_ends_47 (fun H locs hP hD hS => ?_)
        refine lv_aload_n hx hb kd_M_ends_48 rfl (lv_at hl 0 rfl) ?_
        refine va_get (D := (dC, dI)) (ci := 5) (v := .ref (a 7)) (C := "FileTreeModel") (T := ft_M) (N := 18) hx hb hts fi_M hown hK hP 0 rfl rfl 8 (by decide) (hts _ q_477) (fun _ h9 => h9) rfl kd_M_ends_49 ?_
        refine lv_iload_n hx hb kd_M_ends_52 rfl (lv_at hl 1 rfl) ?_
        refine lv_iconst (v := 0) hx hb kd_M_ends_53 (by decide) ?_
        obtain ⟨s10, e_s10, hF⟩ := fb_ob hF
        refine fb_iast (wx := (wM dA a)) (k := 6) hx hb hK hP hD hS 7 0 rfl rfl e_s10 (fun _ => rfl) kd_M_ends_54 (fun H locs hP hD hS => ?_)
        refine lv_iconst (v := 1) hx hb kd_M_ends_55 (by decide) ?_
        exact fb_rb (o := o) hx hb hr hlocks hK hP hD hS hF kd_M_ends_56
      · rw [if_neg c6] at hF
        refine lv_iconst (v := 0) hx hb kd_M_ends_27 (by decide) ?_
        exact fb_rb (o := o) hx hb hr hlocks hK hP hD hS hF kd_M_ends_28
theorem c_M_ends (l : Launch) (dC : Nat → ClassId) (dI : Nat → Nat → Nat) (dA : Nat → ClassId) (a : Nat → Nat) (x1 : Int32) (st : fb_S) (o : Int32 × fb_S) (h : f_M_ends x1 st = some o) : fb_M l ky_M_ends kw_M_ends rm_M_ends (dC, dI) vcl (tM dA) (wM dA a) zM [.ref (a 0), .int x1] (some (.int o.1)) st o.2 := fb_enter (by decide) rfl (Nat.le_of_ble_eq_true rfl) (fun p e s m below meth c A CX hP hD hS ls hl => w_M_ends_0 CX o x1 st h s.heap [] hP hD hS ls hl)
abbrev rm_M_isBare : Room := { frames := 2, cells := 0, slots := 0, locals := 45 }
def b_M_isBare_33 (k5 : Int32 → Int32 → Int32 → fb_S → Option (Int32 × fb_S)) (x1 : Int32) (x3 : Int32) (y0 : Int32) (st : fb_S) : Option (Int32 × fb_S) := k5 x1 y0 (x3 + (16 : Int32)) st
set_option maxHeartbeats 4000000 in
set_option maxRecDepth 100000 in
theorem w_M_isBare_33 {p : Program} {l : Launch} {e : Env} {s : State} {m : MethodId} {args : Array Value} {below : List Frame} {meth : Method} {c : Code} {A : Nat → Prop} {dC : Nat → ClassId} {dI : Nat → Nat → Nat} {dA : Nat → ClassId} {a : Nat → Nat} (CX : fb_C p s m args meth c kc_M_isBare (some .boolean) 4 "FileTreeModel" (dC, dI) vcl (tM dA) A zM) (o : Int32 × fb_S) (k5 : Int32 → Int32 → Int32 → fb_S → Option (Int32 × fb_S)) (hk5 : ∀ (x1 : Int32) (x2 : Int32) (x3 : Int32) (st : fb_S), k5 x1 x2 x3 st = some o → fb_G p l e (headSpec kw_M_isBare rm_M_isBare).room s m args below meth c (dC, dI) vcl (tM dA) (wM dA a) A (some (.int o.1)) o.2 5 4 [(0, .ref (a 0)), (1, .int x1), (2, .int x2), (3, .int x3)] [] st) (x1 : Int32) (x3 : Int32) (y0 : Int32) (st : fb_S) (hF : b_M_isBare_33 k5 x1 x3 y0 st = some o) : fb_G p l e (headSpec kw_M_isBare rm_M_isBare).room s m args below meth c (dC, dI) vcl (tM dA) (wM dA a) A (some (.int o.1)) o.2 33 4 [(0, .ref (a 0)), (1, .int x1), (3, .int x3)] [.int y0] st := by
  intro H locs hP hD hS ls hl
  obtain ⟨hx, hb, hr, hml, hown, hts, hK, hA, hlocks, hZ⟩ := id CX
  unfold b_M_isBare_33 at hF
  refine lv_istore_n (lv' := [(2, .int y0), (0, .ref (a 0)), (1, .int x1), (3, .int x3)]) hx hb kd_M_isBare_33 rfl hl (by decide) rfl (fun ls hl => ?_)
  refine lv_iinc (v := x3 + (16 : Int32)) (lv' := [(3, .int (x3 + (16 : Int32))), (2, .int y0), (0, .ref (a 0)), (1, .int x1)]) hx hb kd_M_isBare_34 hl (k := 3) rfl rfl (by decide) rfl (fun ls hl => ?_)
  refine lv_goto (tgt := 5) hx hb kd_M_isBare_37 (by decide) ?_
  exact hk5 x1 y0 (x3 + (16 : Int32)) st hF H locs hP hD hS ls (lv_sub hl [2, 3, 1, 0] rfl)
def b_M_isBare_32 (k5 : Int32 → Int32 → Int32 → fb_S → Option (Int32 × fb_S)) (x1 : Int32) (x3 : Int32) (st : fb_S) : Option (Int32 × fb_S) := b_M_isBare_33 k5 x1 x3 (0 : Int32) st
set_option maxHeartbeats 4000000 in
set_option maxRecDepth 100000 in
theorem w_M_isBare_32 {p : Program} {l : Launch} {e : Env} {s : State} {m : MethodId} {args : Array Value} {below : List Frame} {meth : Method} {c : Code} {A : Nat → Prop} {dC : Nat → ClassId} {dI : Nat → Nat → Nat} {dA : Nat → ClassId} {a : Nat → Nat} (CX : fb_C p s m args meth c kc_M_isBare (some .boolean) 4 "FileTreeModel" (dC, dI) vcl (tM dA) A zM) (o : Int32 × fb_S) (k5 : Int32 → Int32 → Int32 → fb_S → Option (Int32 × fb_S)) (hk5 : ∀ (x1 : Int32) (x2 : Int32) (x3 : Int32) (st : fb_S), k5 x1 x2 x3 st = some o → fb_G p l e (headSpec kw_M_isBare rm_M_isBare).room s m args below meth c (dC, dI) vcl (tM dA) (wM dA a) A (some (.int o.1)) o.2 5 4 [(0, .ref (a 0)), (1, .int x1), (2, .int x2), (3, .int x3)] [] st) (x1 : Int32) (x3 : Int32) (st : fb_S) (hF : b_M_isBare_32 k5 x1 x3 st = some o) : fb_G p l e (headSpec kw_M_isBare rm_M_isBare).room s m args below meth c (dC, dI) vcl (tM dA) (wM dA a) A (some (.int o.1)) o.2 32 4 [(0, .ref (a 0)), (1, .int x1), (3, .int x3)] [] st := by
  intro H locs hP hD hS ls hl
  obtain ⟨hx, hb, hr, hml, hown, hts, hK, hA, hlocks, hZ⟩ := id CX
  unfold b_M_isBare_32 at hF
  refine lv_iconst (v := 0) hx hb kd_M_isBare_32 (by decide) ?_
  exact w_M_isBare_33 CX o k5 hk5 x1 x3 (0 : Int32) st hF H locs hP hD hS ls (lv_sub hl [0, 1, 2] rfl)
def b_M_isBare_5 (k5 : Int32 → Int32 → Int32 → fb_S → Option (Int32 × fb_S)) (x1 : Int32) (x2 : Int32) (x3 : Int32) (st : fb_S) : Option (Int32 × fb_S) := (fb_ld (st 8) 64 x1).bind fun v1 => (if v1 ≤ x3 then fb_rz x2 st else (if x2 = (0 : Int32) then b_M_isBare_32 k5 x1 x3 st else (f_M_numberAt x1 x3 st).bind fun r4 => (if r4.1 = (0 : Int32) then b_M_isBare_33 k5 x1 x3 (1 : Int32) r4.2 else b_M_isBare_32 k5 x1 x3 r4.2)))
set_option maxHeartbeats 4000000 in
set_option maxRecDepth 100000 in
theorem w_M_isBare_5 {p : Program} {l : Launch} {e : Env} {s : State} {m : MethodId} {args : Array Value} {below : List Frame} {meth : Method} {c : Code} {A : Nat → Prop} {dC : Nat → ClassId} {dI : Nat → Nat → Nat} {dA : Nat → ClassId} {a : Nat → Nat} (CX : fb_C p s m args meth c kc_M_isBare (some .boolean) 4 "FileTreeModel" (dC, dI) vcl (tM dA) A zM) (o : Int32 × fb_S) (k5 : Int32 → Int32 → Int32 → fb_S → Option (Int32 × fb_S)) (hk5 : ∀ (x1 : Int32) (x2 : Int32) (x3 : Int32) (st : fb_S), k5 x1 x2 x3 st = some o → fb_G p l e (headSpec kw_M_isBare rm_M_isBare).room s m args below meth c (dC, dI) vcl (tM dA) (wM dA a) A (some (.int o.1)) o.2 5 4 [(0, .ref (a 0)), (1, .int x1), (2, .int x2), (3, .int x3)] [] st) (x1 : Int32) (x2 : Int32) (x3 : Int32) (st : fb_S) (hF : b_M_isBare_5 k5 x1 x2 x3 st = some o) : fb_G p l e (headSpec kw_M_isBare rm_M_isBare).room s m args below meth c (dC, dI) vcl (tM dA) (wM dA a) A (some (.int o.1)) o.2 5 4 [(0, .ref (a 0)), (1, .int x1), (2, .int x2), (3, .int x3)] [] st := by
  intro H locs hP hD hS ls hl
  obtain ⟨hx, hb, hr, hml, hown, hts, hK, hA, hlocks, hZ⟩ := id CX
  unfold b_M_isBare_5 at hF
  refine lv_iload_n hx hb kd_M_isBare_5 rfl (lv_at hl 3 rfl) ?_
  refine lv_aload_n hx hb kd_M_isBare_6 rfl (lv_at hl 0 rfl) ?_
  refine va_get (D := (dC, dI)) (ci := 5) (v := .ref (a 9)) (C := "FileTreeModel") (T := ft_M) (N := 18) hx hb hts fi_M hown hK hP 0 rfl rfl 10 (by decide) (hts _ q_479) (fun _ h9 => h9) rfl kd_M_isBare_7 ?_
  refine lv_iload_n hx hb kd_M_isBare_10 rfl (lv_at hl 1 rfl) ?_
  obtain ⟨v1, e_v1, hF⟩ := fb_ob hF
  refine fb_iald hx hb hK hP 9 0 rfl rfl e_v1 kd_M_isBare_11 ?_
  refine lv_icmp_ge (tgt := 40) hx hb kd_M_isBare_12 (by decide) (fun c2 => ?_) (fun c2 => ?_)
  · rw [if_pos c2] at hF
    refine lv_iload_n hx hb kd_M_isBare_40 rfl (lv_at hl 2 rfl) ?_
    exact fb_rb (o := o) hx hb hr hlocks hK hP hD hS hF kd_M_isBare_41
  · rw [if_neg c2] at hF
    refine lv_iload_n hx hb kd_M_isBare_15 rfl (lv_at hl 2 rfl) ?_
    refine lv_if_eq (tgt := 32) hx hb kd_M_isBare_16 (by decide) (fun c3 => ?_) (fun c3 => ?_)
    · rw [if_pos c3] at hF
      exact w_M_isBare_32 CX o k5 hk5 x1 x3 st hF H locs hP hD hS ls (lv_sub hl [0, 1, 3] rfl)
    · rw [if_neg c3] at hF
      refine lv_aload_n hx hb kd_M_isBare_19 rfl (lv_at hl 0 rfl) ?_
      refine lv_iload_n hx hb kd_M_isBare_20 rfl (lv_at hl 1 rfl) ?_
      refine lv_iload_n hx hb kd_M_isBare_21 rfl (lv_at hl 3 rfl) ?_
      obtain ⟨r4, e_r4, hF⟩ := fb_ob hF
      refine fb_callV (As := [.int x1, .int x3]) (rest := []) ⟨hx, hb, hml, hown, hts⟩ zM_mv hZ hK hP hD hS hA (c_M_numberAt l dC dI dA a x1 x3 st r4 e_r4) (cwV 2 hts (gd_V q_569 ko_M_numberAt) rfl rfl rfl kh_M_numberAt ⟨Nat.le_of_ble_eq_true rfl, Nat.le_of_ble_eq_true rfl⟩) 5 0 rfl rfl rfl rfl hl.1 rfl (Nat.le_of_ble_eq_true rfl) kd_M_isBare_22 ⟨Nat.zero_le _, Nat.zero_le _⟩ (fun H locs hP hD hS => ?_)
      refine W.eq (g2 := F0 m 25 ls [.int r4.1]) rfl ?_
      refine lv_if_ne (tgt := 32) hx hb kd_M_isBare_25 (by decide) (fun c5 => ?_) (fun c5 => ?_)
      · rw [if_neg c5] at hF
        exact w_M_isBare_32 CX o k5 hk5 x1 x3 r4.2 hF H locs hP hD hS ls (lv_sub hl [0, 1, 3] rfl)
      · rw [if_pos c5] at hF
        refine lv_iconst (v := 1) hx hb kd_M_isBare_28 (by decide) ?_
        refine lv_goto (tgt := 33) hx hb kd_M_isBare_29 (by decide) ?_
        exact w_M_isBare_33 CX o k5 hk5 x1 x3 (1 : Int32) r4.2 hF H locs hP hD hS ls (lv_sub hl [0, 1, 3] rfl)
def l_M_isBare_5 : Nat → Int32 → Int32 → Int32 → fb_S → Option (Int32 × fb_S)
  | 0 => fun _ _ _ _ => none
  | n + 1 => b_M_isBare_5 (l_M_isBare_5 n)
theorem v_M_isBare_5 {p : Program} {l : Launch} {e : Env} {s : State} {m : MethodId} {args : Array Value} {below : List Frame} {meth : Method} {c : Code} {A : Nat → Prop} {dC : Nat → ClassId} {dI : Nat → Nat → Nat} {dA : Nat → ClassId} {a : Nat → Nat} (CX : fb_C p s m args meth c kc_M_isBare (some .boolean) 4 "FileTreeModel" (dC, dI) vcl (tM dA) A zM) (o : Int32 × fb_S) (n : Nat) : ∀ (x1 : Int32) (x2 : Int32) (x3 : Int32) (st : fb_S), l_M_isBare_5 n x1 x2 x3 st = some o → fb_G p l e (headSpec kw_M_isBare rm_M_isBare).room s m args below meth c (dC, dI) vcl (tM dA) (wM dA a) A (some (.int o.1)) o.2 5 4 [(0, .ref (a 0)), (1, .int x1), (2, .int x2), (3, .int x3)] [] st := by
  induction n with
  | zero => intro x1 x2 x3 st hF; cases hF
  | succ n ih => intro x1 x2 x3 st hF; exact w_M_isBare_5 CX o (l_M_isBare_5 n) ih x1 x2 x3 st hF
def f_M_isBare (x1 : Int32) (st : fb_S) : Option (Int32 × fb_S) := l_M_isBare_5 fb_n x1 (1 : Int32) (32 : Int32) st
set_option maxHeartbeats 4000000 in
set_option maxRecDepth 100000 in
theorem w_M_isBare_0 {p : Program} {l : Launch} {e : Env} {s : State} {m : MethodId} {args : Array Value} {below : List Frame} {meth : Method} {c : Code} {A : Nat → Prop} {dC : Nat → ClassId} {dI : Nat → Nat → Nat} {dA : Nat → ClassId} {a : Nat → Nat} (CX : fb_C p s m args meth c kc_M_isBare (some .boolean) 4 "FileTreeModel" (dC, dI) vcl (tM dA) A zM) (o : Int32 × fb_S) (x1 : Int32) (st : fb_S) (hF : f_M_isBare x1 st = some o) : fb_G p l e (headSpec kw_M_isBare rm_M_isBare).room s m args below meth c (dC, dI) vcl (tM dA) (wM dA a) A (some (.int o.1)) o.2 0 4 [(0, .ref (a 0)), (1, .int x1)] [] st := by
  intro H locs hP hD hS ls hl
  obtain ⟨hx, hb, hr, hml, hown, hts, hK, hA, hlocks, hZ⟩ := id CX
  unfold f_M_isBare at hF
  refine lv_iconst (v := 1) hx hb kd_M_isBare_0 (by decide) ?_
  refine lv_istore_n (lv' := [(2, .int (1 : Int32)), (0, .ref (a 0)), (1, .int x1)]) hx hb kd_M_isBare_1 rfl hl (by decide) rfl (fun ls hl => ?_)
  refine lv_bipush (v := 32) hx hb kd_M_isBare_2 (by decide) ?_
  refine lv_istore_n (lv' := [(3, .int (32 : Int32)), (2, .int (1 : Int32)), (0, .ref (a 0)), (1, .int x1)]) hx hb kd_M_isBare_4 rfl hl (by decide) rfl (fun ls hl => ?_)
  exact v_M_isBare_5 CX o fb_n x1 (1 : Int32) (32 : Int32) st hF H locs hP hD hS ls (lv_sub hl [2, 3, 1, 0] rfl)
theorem c_M_isBare (l : Launch) (dC : Nat → ClassId) (dI : Nat → Nat → Nat) (dA : Nat → ClassId) (a : Nat → Nat) (x1 : Int32) (st : fb_S) (o : Int32 × fb_S) (h : f_M_isBare x1 st = some o) : fb_M l ky_M_isBare kw_M_isBare rm_M_isBare (dC, dI) vcl (tM dA) (wM dA a) zM [.ref (a 0), .int x1] (some (.int o.1)) st o.2 := fb_enter (by decide) rfl (Nat.le_of_ble_eq_true rfl) (fun p e s m below meth c A CX hP hD hS ls hl => w_M_isBare_0 CX o x1 st h s.heap [] hP hD hS ls hl)
abbrev rm_M_isDots : Room := { frames := 0, cells := 0, slots := 0, locals := 0 }
def b_M_isDots_40 (st : fb_S) : Option (Int32 × fb_S) := fb_rz (1 : Int32) st
set_option maxHeartbeats 4000000 in
set_option maxRecDepth 100000 in
theorem w_M_isDots_40 {p : Program} {l : Launch} {e : Env} {s : State} {m : MethodId} {args : Array Value} {below : List Frame} {meth : Method} {c : Code} {A : Nat → Prop} {dC : Nat → ClassId} {dI : Nat → Nat → Nat} {dA : Nat → ClassId} {a : Nat → Nat} (CX : fb_C p s m args meth c kc_M_isDots (some .boolean) 1 "FileTreeModel" (dC, dI) vcl (tM dA) A zM) (o : Int32 × fb_S) (st : fb_S) (hF : b_M_isDots_40 st = some o) : fb_G p l e (headSpec kw_M_isDots rm_M_isDots).room s m args below meth c (dC, dI) vcl (tM dA) (wM dA a) A (some (.int o.1)) o.2 40 1 [] [] st := by
  intro H locs hP hD hS ls hl
  obtain ⟨hx, hb, hr, hml, hown, hts, hK, hA, hlocks, hZ⟩ := id CX
  unfold b_M_isDots_40 at hF
  refine lv_iconst (v := 1) hx hb kd_M_isDots_40 (by decide) ?_
  refine lv_goto (tgt := 45) hx hb kd_M_isDots_41 (by decide) ?_
  exact fb_rb (o := o) hx hb hr hlocks hK hP hD hS hF kd_M_isDots_45
def f_M_isDots (st : fb_S) : Option (Int32 × fb_S) := (fb_ld (st 13) 14 (0 : Int32)).bind fun v1 => (if v1 = (46 : Int32) then (fb_ld (st 13) 14 (1 : Int32)).bind fun v3 => (if v3 = (0 : Int32) then b_M_isDots_40 st else (fb_ld (st 13) 14 (1 : Int32)).bind fun v5 => (if v5 = (46 : Int32) then (fb_ld (st 13) 14 (2 : Int32)).bind fun v7 => (if v7 = (0 : Int32) then b_M_isDots_40 st else fb_rz (0 : Int32) st) else fb_rz (0 : Int32) st)) else fb_rz (0 : Int32) st)
set_option maxHeartbeats 4000000 in
set_option maxRecDepth 100000 in
theorem w_M_isDots_0 {p : Program} {l : Launch} {e : Env} {s : State} {m : MethodId} {args : Array Value} {below : List Frame} {meth : Method} {c : Code} {A : Nat → Prop} {dC : Nat → ClassId} {dI : Nat → Nat → Nat} {dA : Nat → ClassId} {a : Nat → Nat} (CX : fb_C p s m args meth c kc_M_isDots (some .boolean) 1 "FileTreeModel" (dC, dI) vcl (tM dA) A zM) (o : Int32 × fb_S) (st : fb_S) (hF : f_M_isDots st = some o) : fb_G p l e (headSpec kw_M_isDots rm_M_isDots).room s m args below meth c (dC, dI) vcl (tM dA) (wM dA a) A (some (.int o.1)) o.2 0 1 [(0, .ref (a 0))] [] st := by
  intro H locs hP hD hS ls hl
  obtain ⟨hx, hb, hr, hml, hown, hts, hK, hA, hlocks, hZ⟩ := id CX
  unfold f_M_isDots at hF
  refine lv_aload_n hx hb kd_M_isDots_0 rfl (lv_at hl 0 rfl) ?_
  refine va_get (D := (dC, dI)) (ci := 5) (v := .ref (a 14)) (C := "FileTreeModel") (T := ft_M) (N := 18) hx hb hts fi_M hown hK hP 0 rfl rfl 17 (by decide) (hts _ q_486) (fun _ h9 => h9) rfl kd_M_isDots_1 ?_
  refine lv_iconst (v := 0) hx hb kd_M_isDots_4 (by decide) ?_
  obtain ⟨v1, e_v1, hF⟩ := fb_ob hF
  refine fb_bald hx hb hK hP 14 1 rfl rfl e_v1 kd_M_isDots_5 ?_
  refine lv_bipush (v := 46) hx hb kd_M_isDots_6 (by decide) ?_
  refine lv_icmp_ne (tgt := 44) hx hb kd_M_isDots_8 (by decide) (fun c2 => ?_) (fun c2 => ?_)
  · rw [if_neg c2] at hF
    refine lv_iconst (v := 0) hx hb kd_M_isDots_44 (by decide) ?_
    exact fb_rb (o := o) hx hb hr hlocks hK hP hD hS hF kd_M_isDots_45
  · rw [if_pos c2] at hF
    refine lv_aload_n hx hb kd_M_isDots_11 rfl (lv_at hl 0 rfl) ?_
    refine va_get (D := (dC, dI)) (ci := 5) (v := .ref (a 14)) (C := "FileTreeModel") (T := ft_M) (N := 18) hx hb hts fi_M hown hK hP 0 rfl rfl 17 (by decide) (hts _ q_486) (fun _ h9 => h9) rfl kd_M_isDots_12 ?_
    refine lv_iconst (v := 1) hx hb kd_M_isDots_15 (by decide) ?_
    obtain ⟨v3, e_v3, hF⟩ := fb_ob hF
    refine fb_bald hx hb hK hP 14 1 rfl rfl e_v3 kd_M_isDots_16 ?_
    refine lv_if_eq (tgt := 40) hx hb kd_M_isDots_17 (by decide) (fun c4 => ?_) (fun c4 => ?_)
    · rw [if_pos c4] at hF
      exact w_M_isDots_40 CX o st hF H locs hP hD hS ls (lv_sub hl [] rfl)
    · rw [if_neg c4] at hF
      refine lv_aload_n hx hb kd_M_isDots_20 rfl (lv_at hl 0 rfl) ?_
      refine va_get (D := (dC, dI)) (ci := 5) (v := .ref (a 14)) (C := "FileTreeModel") (T := ft_M) (N := 18) hx hb hts fi_M hown hK hP 0 rfl rfl 17 (by decide) (hts _ q_486) (fun _ h9 => h9) rfl kd_M_isDots_21 ?_
      refine lv_iconst (v := 1) hx hb kd_M_isDots_24 (by decide) ?_
      obtain ⟨v5, e_v5, hF⟩ := fb_ob hF
      refine fb_bald hx hb hK hP 14 1 rfl rfl e_v5 kd_M_isDots_25 ?_
      refine lv_bipush (v := 46) hx hb kd_M_isDots_26 (by decide) ?_
      refine lv_icmp_ne (tgt := 44) hx hb kd_M_isDots_28 (by decide) (fun c6 => ?_) (fun c6 => ?_)
      · rw [if_neg c6] at hF
        refine lv_iconst (v := 0) hx hb kd_M_isDots_44 (by decide) ?_
        exact fb_rb (o := o) hx hb hr hlocks hK hP hD hS hF kd_M_isDots_45
      · rw [if_pos c6] at hF
        refine lv_aload_n hx hb kd_M_isDots_31 rfl (lv_at hl 0 rfl) ?_
        refine va_get (D := (dC, dI)) (ci := 5) (v := .ref (a 14)) (C := "FileTreeModel") (T := ft_M) (N := 18) hx hb hts fi_M hown hK hP 0 rfl rfl 17 (by decide) (hts _ q_486) (fun _ h9 => h9) rfl kd_M_isDots_32 ?_
        refine lv_iconst (v := 2) hx hb kd_M_isDots_35 (by decide) ?_
        obtain ⟨v7, e_v7, hF⟩ := fb_ob hF
        refine fb_bald hx hb hK hP 14 1 rfl rfl e_v7 kd_M_isDots_36 ?_
        refine lv_if_ne (tgt := 44) hx hb kd_M_isDots_37 (by decide) (fun c8 => ?_) (fun c8 => ?_)
        · rw [if_neg c8] at hF
          refine lv_iconst (v := 0) hx hb kd_M_isDots_44 (by decide) ?_
          exact fb_rb (o := o) hx hb hr hlocks hK hP hD hS hF kd_M_isDots_45
        · rw [if_pos c8] at hF
          exact w_M_isDots_40 CX o st hF H locs hP hD hS ls (lv_sub hl [] rfl)
theorem c_M_isDots (l : Launch) (dC : Nat → ClassId) (dI : Nat → Nat → Nat) (dA : Nat → ClassId) (a : Nat → Nat) (st : fb_S) (o : Int32 × fb_S) (h : f_M_isDots st = some o) : fb_M l ky_M_isDots kw_M_isDots rm_M_isDots (dC, dI) vcl (tM dA) (wM dA a) zM [.ref (a 0)] (some (.int o.1)) st o.2 := fb_enter (by decide) rfl (Nat.le_of_ble_eq_true rfl) (fun p e s m below meth c A CX hP hD hS ls hl => w_M_isDots_0 CX o st h s.heap [] hP hD hS ls hl)
abbrev rm_M_unlink : Room := { frames := 5, cells := 0, slots := 0, locals := 118 }
def b_M_unlink_133 (x4 : Int32) (st : fb_S) : Option (Int32 × fb_S) := (f_M_ends x4 st).bind fun r1 => some (x4, r1.2)
set_option maxHeartbeats 4000000 in
set_option maxRecDepth 100000 in
theorem w_M_unlink_133 {p : Program} {l : Launch} {e : Env} {s : State} {m : MethodId} {args : Array Value} {below : List Frame} {meth : Method} {c : Code} {A : Nat → Prop} {dC : Nat → ClassId} {dI : Nat → Nat → Nat} {dA : Nat → ClassId} {a : Nat → Nat} (CX : fb_C p s m args meth c kc_M_unlink (some .int) 6 "FileTreeModel" (dC, dI) vcl (tM dA) A zM) (o : Int32 × fb_S) (x4 : Int32) (st : fb_S) (hF : b_M_unlink_133 x4 st = some o) : fb_G p l e (headSpec kw_M_unlink rm_M_unlink).room s m args below meth c (dC, dI) vcl (tM dA) (wM dA a) A (some (.int o.1)) o.2 133 6 [(0, .ref (a 0)), (4, .int x4)] [] st := by
  intro H locs hP hD hS ls hl
  obtain ⟨hx, hb, hr, hml, hown, hts, hK, hA, hlocks, hZ⟩ := id CX
  unfold b_M_unlink_133 at hF
  refine lv_aload_n hx hb kd_M_unlink_133 rfl (lv_at hl 0 rfl) ?_
  refine lv_iload hx hb kd_M_unlink_134 (lv_at hl 1 rfl) ?_
  obtain ⟨r1, e_r1, hF⟩ := fb_ob hF
  refine fb_callV (As := [.int x4]) (rest := []) ⟨hx, hb, hml, hown, hts⟩ zM_mv hZ hK hP hD hS hA (c_M_ends l dC dI dA a x4 st r1 e_r1) (cwV 1 hts (gd_V q_627 ko_M_ends) rfl rfl rfl kh_M_ends ⟨Nat.le_of_ble_eq_true rfl, Nat.le_of_ble_eq_true rfl⟩) 5 0 rfl rfl rfl rfl hl.1 rfl (Nat.le_of_ble_eq_true rfl) kd_M_unlink_136 ⟨Nat.zero_le _, Nat.zero_le _⟩ (fun H locs hP hD hS => ?_)
  refine W.eq (g2 := F0 m 139 ls [.int r1.1]) rfl ?_
  refine lv_istore (lv' := [(5, .int r1.1), (0, .ref (a 0)), (4, .int x4)]) hx hb kd_M_unlink_139 hl (by decide) rfl (fun ls hl => ?_)
  refine lv_iload hx hb kd_M_unlink_141 (lv_at hl 2 rfl) ?_
  exact fb_ri (o := o) hx hb hr hlocks hK hP hD hS hF kd_M_unlink_143
def b_M_unlink_80 (x2 : Int32) (x3 : Int32) (x4 : Int32) (st : fb_S) : Option (Int32 × fb_S) := (f_M_erase x2 x3 st).bind fun r1 => (fb_ld (r1.2 7) 64 x4).bind fun v2 => (fb_st r1.2 7 64 x4 (v2 - (1 : Int32))).bind fun s3 => (fb_ld (s3 4) 64 x4).bind fun v4 => (if v4 = (1 : Int32) then (f_M_erase x4 (0 : Int32) s3).bind fun r6 => (f_M_erase x4 (16 : Int32) r6.2).bind fun r7 => (fb_ld (r7.2 7) 64 x2).bind fun v8 => (fb_st r7.2 7 64 x2 (v8 - (1 : Int32))).bind fun s9 => b_M_unlink_133 x4 s9 else b_M_unlink_133 x4 s3)
set_option maxHeartbeats 4000000 in
set_option maxRecDepth 100000 in
theorem w_M_unlink_80 {p : Program} {l : Launch} {e : Env} {s : State} {m : MethodId} {args : Array Value} {below : List Frame} {meth : Method} {c : Code} {A : Nat → Prop} {dC : Nat → ClassId} {dI : Nat → Nat → Nat} {dA : Nat → ClassId} {a : Nat → Nat} (CX : fb_C p s m args meth c kc_M_unlink (some .int) 6 "FileTreeModel" (dC, dI) vcl (tM dA) A zM) (o : Int32 × fb_S) (x2 : Int32) (x3 : Int32) (x4 : Int32) (st : fb_S) (hF : b_M_unlink_80 x2 x3 x4 st = some o) : fb_G p l e (headSpec kw_M_unlink rm_M_unlink).room s m args below meth c (dC, dI) vcl (tM dA) (wM dA a) A (some (.int o.1)) o.2 80 6 [(0, .ref (a 0)), (2, .int x2), (3, .int x3), (4, .int x4)] [] st := by
  intro H locs hP hD hS ls hl
  obtain ⟨hx, hb, hr, hml, hown, hts, hK, hA, hlocks, hZ⟩ := id CX
  unfold b_M_unlink_80 at hF
  refine lv_aload_n hx hb kd_M_unlink_80 rfl (lv_at hl 0 rfl) ?_
  refine lv_iload_n hx hb kd_M_unlink_81 rfl (lv_at hl 1 rfl) ?_
  refine lv_iload_n hx hb kd_M_unlink_82 rfl (lv_at hl 2 rfl) ?_
  obtain ⟨r1, e_r1, hF⟩ := fb_ob hF
  refine fb_callV (As := [.int x2, .int x3]) (rest := []) ⟨hx, hb, hml, hown, hts⟩ zM_mv hZ hK hP hD hS hA (c_M_erase l dC dI dA a x2 x3 st r1 e_r1) (cwV 2 hts (gd_V q_623 ko_M_erase) rfl rfl rfl kh_M_erase ⟨Nat.le_of_ble_eq_true rfl, Nat.le_of_ble_eq_true rfl⟩) 5 0 rfl rfl rfl rfl hl.1 rfl (Nat.le_of_ble_eq_true rfl) kd_M_unlink_83 ⟨Nat.zero_le _, Nat.zero_le _⟩ (fun H locs hP hD hS => ?_)
  refine W.eq (g2 := F0 m 86 ls []) rfl ?_
  refine lv_aload_n hx hb kd_M_unlink_86 rfl (lv_at hl 0 rfl) ?_
  refine va_get (D := (dC, dI)) (ci := 5) (v := .ref (a 8)) (C := "FileTreeModel") (T := ft_M) (N := 18) hx hb hts fi_M hown hK hP 0 rfl rfl 9 (by decide) (hts _ q_478) (fun _ h9 => h9) rfl kd_M_unlink_87 ?_
  refine lv_iload hx hb kd_M_unlink_90 (lv_at hl 3 rfl) ?_
  refine lv_dup2_11 hx hb kd_M_unlink_92 rfl rfl ?_
  obtain ⟨v2, e_v2, hF⟩ := fb_ob hF
  refine fb_iald hx hb hK hP 8 0 rfl rfl e_v2 kd_M_unlink_93 ?_
  refine lv_iconst (v := 1) hx hb kd_M_unlink_94 (by decide) ?_
  refine lv_isub hx hb kd_M_unlink_95 ?_
  obtain ⟨s3, e_s3, hF⟩ := fb_ob hF
  refine fb_iast (wx := (wM dA a)) (k := 7) hx hb hK hP hD hS 8 0 rfl rfl e_s3 (fun _ => rfl) kd_M_unlink_96 (fun H locs hP hD hS => ?_)
  refine lv_aload_n hx hb kd_M_unlink_97 rfl (lv_at hl 0 rfl) ?_
  refine va_get (D := (dC, dI)) (ci := 5) (v := .ref (a 5)) (C := "FileTreeModel") (T := ft_M) (N := 18) hx hb hts fi_M hown hK hP 0 rfl rfl 6 (by decide) (hts _ q_475) (fun _ h9 => h9) rfl kd_M_unlink_98 ?_
  refine lv_iload hx hb kd_M_unlink_101 (lv_at hl 3 rfl) ?_
  obtain ⟨v4, e_v4, hF⟩ := fb_ob hF
  refine fb_iald hx hb hK hP 5 0 rfl rfl e_v4 kd_M_unlink_103 ?_
  refine lv_iconst (v := 1) hx hb kd_M_unlink_104 (by decide) ?_
  refine lv_icmp_ne (tgt := 133) hx hb kd_M_unlink_105 (by decide) (fun c5 => ?_) (fun c5 => ?_)
  · rw [if_neg c5] at hF
    exact w_M_unlink_133 CX o x4 s3 hF H locs hP hD hS ls (lv_sub hl [0, 3] rfl)
  · rw [if_pos c5] at hF
    refine lv_aload_n hx hb kd_M_unlink_108 rfl (lv_at hl 0 rfl) ?_
    refine lv_iload hx hb kd_M_unlink_109 (lv_at hl 3 rfl) ?_
    refine lv_iconst (v := 0) hx hb kd_M_unlink_111 (by decide) ?_
    obtain ⟨r6, e_r6, hF⟩ := fb_ob hF
    refine fb_callV (As := [.int x4, .int (0 : Int32)]) (rest := []) ⟨hx, hb, hml, hown, hts⟩ zM_mv hZ hK hP hD hS hA (c_M_erase l dC dI dA a x4 (0 : Int32) s3 r6 e_r6) (cwV 2 hts (gd_V q_623 ko_M_erase) rfl rfl rfl kh_M_erase ⟨Nat.le_of_ble_eq_true rfl, Nat.le_of_ble_eq_true rfl⟩) 5 0 rfl rfl rfl rfl hl.1 rfl (Nat.le_of_ble_eq_true rfl) kd_M_unlink_112 ⟨Nat.zero_le _, Nat.zero_le _⟩ (fun H locs hP hD hS => ?_)
    refine W.eq (g2 := F0 m 115 ls []) rfl ?_
    refine lv_aload_n hx hb kd_M_unlink_115 rfl (lv_at hl 0 rfl) ?_
    refine lv_iload hx hb kd_M_unlink_116 (lv_at hl 3 rfl) ?_
    refine lv_bipush (v := 16) hx hb kd_M_unlink_118 (by decide) ?_
    obtain ⟨r7, e_r7, hF⟩ := fb_ob hF
    refine fb_callV (As := [.int x4, .int (16 : Int32)]) (rest := []) ⟨hx, hb, hml, hown, hts⟩ zM_mv hZ hK hP hD hS hA (c_M_erase l dC dI dA a x4 (16 : Int32) r6.2 r7 e_r7) (cwV 2 hts (gd_V q_623 ko_M_erase) rfl rfl rfl kh_M_erase ⟨Nat.le_of_ble_eq_true rfl, Nat.le_of_ble_eq_true rfl⟩) 5 0 rfl rfl rfl rfl hl.1 rfl (Nat.le_of_ble_eq_true rfl) kd_M_unlink_120 ⟨Nat.zero_le _, Nat.zero_le _⟩ (fun H locs hP hD hS => ?_)
    refine W.eq (g2 := F0 m 123 ls []) rfl ?_
    refine lv_aload_n hx hb kd_M_unlink_123 rfl (lv_at hl 0 rfl) ?_
    refine va_get (D := (dC, dI)) (ci := 5) (v := .ref (a 8)) (C := "FileTreeModel") (T := ft_M) (N := 18) hx hb hts fi_M hown hK hP 0 rfl rfl 9 (by decide) (hts _ q_478) (fun _ h9 => h9) rfl kd_M_unlink_124 ?_
    refine lv_iload_n hx hb kd_M_unlink_127 rfl (lv_at hl 1 rfl) ?_
    refine lv_dup2_11 hx hb kd_M_unlink_128 rfl rfl ?_
    obtain ⟨v8, e_v8, hF⟩ := fb_ob hF
    refine fb_iald hx hb hK hP 8 0 rfl rfl e_v8 kd_M_unlink_129 ?_
    refine lv_iconst (v := 1) hx hb kd_M_unlink_130 (by decide) ?_
    refine lv_isub hx hb kd_M_unlink_131 ?_
    obtain ⟨s9, e_s9, hF⟩ := fb_ob hF
    refine fb_iast (wx := (wM dA a)) (k := 7) hx hb hK hP hD hS 8 0 rfl rfl e_s9 (fun _ => rfl) kd_M_unlink_132 (fun H locs hP hD hS => ?_)
    exact w_M_unlink_133 CX o x4 s9 hF H locs hP hD hS ls (lv_sub hl [0, 3] rfl)
def b_M_unlink_51 (x2 : Int32) (x3 : Int32) (y0 : Int32) (st : fb_S) : Option (Int32 × fb_S) := (if y0 = (0 : Int32) then some ((-1 : Int32), st) else (fb_ld (st 4) 64 y0).bind fun v2 => (if v2 = (1 : Int32) then (f_M_isBare y0 st).bind fun r4 => (if r4.1 = (0 : Int32) then some ((-1 : Int32), r4.2) else b_M_unlink_80 x2 x3 y0 r4.2) else b_M_unlink_80 x2 x3 y0 st))
set_option maxHeartbeats 4000000 in
set_option maxRecDepth 100000 in
theorem w_M_unlink_51 {p : Program} {l : Launch} {e : Env} {s : State} {m : MethodId} {args : Array Value} {below : List Frame} {meth : Method} {c : Code} {A : Nat → Prop} {dC : Nat → ClassId} {dI : Nat → Nat → Nat} {dA : Nat → ClassId} {a : Nat → Nat} (CX : fb_C p s m args meth c kc_M_unlink (some .int) 6 "FileTreeModel" (dC, dI) vcl (tM dA) A zM) (o : Int32 × fb_S) (x2 : Int32) (x3 : Int32) (y0 : Int32) (st : fb_S) (hF : b_M_unlink_51 x2 x3 y0 st = some o) : fb_G p l e (headSpec kw_M_unlink rm_M_unlink).room s m args below meth c (dC, dI) vcl (tM dA) (wM dA a) A (some (.int o.1)) o.2 51 6 [(0, .ref (a 0)), (2, .int x2), (3, .int x3)] [.int y0] st := by
  intro H locs hP hD hS ls hl
  obtain ⟨hx, hb, hr, hml, hown, hts, hK, hA, hlocks, hZ⟩ := id CX
  unfold b_M_unlink_51 at hF
  refine lv_istore (lv' := [(4, .int y0), (0, .ref (a 0)), (2, .int x2), (3, .int x3)]) hx hb kd_M_unlink_51 hl (by decide) rfl (fun ls hl => ?_)
  refine lv_iload hx hb kd_M_unlink_53 (lv_at hl 0 rfl) ?_
  refine lv_if_eq (tgt := 78) hx hb kd_M_unlink_55 (by decide) (fun c1 => ?_) (fun c1 => ?_)
  · rw [if_pos c1] at hF
    refine lv_iconst (v := (-1)) hx hb kd_M_unlink_78 (by decide) ?_
    exact fb_ri (o := o) hx hb hr hlocks hK hP hD hS hF kd_M_unlink_79
  · rw [if_neg c1] at hF
    refine lv_aload_n hx hb kd_M_unlink_58 rfl (lv_at hl 1 rfl) ?_
    refine va_get (D := (dC, dI)) (ci := 5) (v := .ref (a 5)) (C := "FileTreeModel") (T := ft_M) (N := 18) hx hb hts fi_M hown hK hP 0 rfl rfl 6 (by decide) (hts _ q_475) (fun _ h9 => h9) rfl kd_M_unlink_59 ?_
    refine lv_iload hx hb kd_M_unlink_62 (lv_at hl 0 rfl) ?_
    obtain ⟨v2, e_v2, hF⟩ := fb_ob hF
    refine fb_iald hx hb hK hP 5 0 rfl rfl e_v2 kd_M_unlink_64 ?_
    refine lv_iconst (v := 1) hx hb kd_M_unlink_65 (by decide) ?_
    refine lv_icmp_ne (tgt := 80) hx hb kd_M_unlink_66 (by decide) (fun c3 => ?_) (fun c3 => ?_)
    · rw [if_neg c3] at hF
      exact w_M_unlink_80 CX o x2 x3 y0 st hF H locs hP hD hS ls (lv_sub hl [1, 2, 3, 0] rfl)
    · rw [if_pos c3] at hF
      refine lv_aload_n hx hb kd_M_unlink_69 rfl (lv_at hl 1 rfl) ?_
      refine lv_iload hx hb kd_M_unlink_70 (lv_at hl 0 rfl) ?_
      obtain ⟨r4, e_r4, hF⟩ := fb_ob hF
      refine fb_callV (As := [.int y0]) (rest := []) ⟨hx, hb, hml, hown, hts⟩ zM_mv hZ hK hP hD hS hA (c_M_isBare l dC dI dA a y0 st r4 e_r4) (cwV 1 hts (gd_V q_619 ko_M_isBare) rfl rfl rfl kh_M_isBare ⟨Nat.le_of_ble_eq_true rfl, Nat.le_of_ble_eq_true rfl⟩) 5 0 rfl rfl rfl rfl hl.1 rfl (Nat.le_of_ble_eq_true rfl) kd_M_unlink_72 ⟨Nat.zero_le _, Nat.zero_le _⟩ (fun H locs hP hD hS => ?_)
      refine W.eq (g2 := F0 m 75 ls [.int r4.1]) rfl ?_
      refine lv_if_ne (tgt := 80) hx hb kd_M_unlink_75 (by decide) (fun c5 => ?_) (fun c5 => ?_)
      · rw [if_neg c5] at hF
        exact w_M_unlink_80 CX o x2 x3 y0 r4.2 hF H locs hP hD hS ls (lv_sub hl [1, 2, 3, 0] rfl)
      · rw [if_pos c5] at hF
        refine lv_iconst (v := (-1)) hx hb kd_M_unlink_78 (by decide) ?_
        exact fb_ri (o := o) hx hb hr hlocks hK hP hD hS hF kd_M_unlink_79
def b_M_unlink_36 (x2 : Int32) (y0 : Int32) (st : fb_S) : Option (Int32 × fb_S) := (if (0 : Int32) ≤ y0 then (f_M_numberAt x2 y0 st).bind fun r2 => b_M_unlink_51 x2 y0 r2.1 r2.2 else b_M_unlink_51 x2 y0 (0 : Int32) st)
set_option maxHeartbeats 4000000 in
set_option maxRecDepth 100000 in
theorem w_M_unlink_36 {p : Program} {l : Launch} {e : Env} {s : State} {m : MethodId} {args : Array Value} {below : List Frame} {meth : Method} {c : Code} {A : Nat → Prop} {dC : Nat → ClassId} {dI : Nat → Nat → Nat} {dA : Nat → ClassId} {a : Nat → Nat} (CX : fb_C p s m args meth c kc_M_unlink (some .int) 6 "FileTreeModel" (dC, dI) vcl (tM dA) A zM) (o : Int32 × fb_S) (x2 : Int32) (y0 : Int32) (st : fb_S) (hF : b_M_unlink_36 x2 y0 st = some o) : fb_G p l e (headSpec kw_M_unlink rm_M_unlink).room s m args below meth c (dC, dI) vcl (tM dA) (wM dA a) A (some (.int o.1)) o.2 36 6 [(0, .ref (a 0)), (2, .int x2)] [.int y0] st := by
  intro H locs hP hD hS ls hl
  obtain ⟨hx, hb, hr, hml, hown, hts, hK, hA, hlocks, hZ⟩ := id CX
  unfold b_M_unlink_36 at hF
  refine lv_istore_n (lv' := [(3, .int y0), (0, .ref (a 0)), (2, .int x2)]) hx hb kd_M_unlink_36 rfl hl (by decide) rfl (fun ls hl => ?_)
  refine lv_iload_n hx hb kd_M_unlink_37 rfl (lv_at hl 0 rfl) ?_
  refine lv_if_ge (tgt := 45) hx hb kd_M_unlink_38 (by decide) (fun c1 => ?_) (fun c1 => ?_)
  · rw [if_pos c1] at hF
    refine lv_aload_n hx hb kd_M_unlink_45 rfl (lv_at hl 1 rfl) ?_
    refine lv_iload_n hx hb kd_M_unlink_46 rfl (lv_at hl 2 rfl) ?_
    refine lv_iload_n hx hb kd_M_unlink_47 rfl (lv_at hl 0 rfl) ?_
    obtain ⟨r2, e_r2, hF⟩ := fb_ob hF
    refine fb_callV (As := [.int x2, .int y0]) (rest := []) ⟨hx, hb, hml, hown, hts⟩ zM_mv hZ hK hP hD hS hA (c_M_numberAt l dC dI dA a x2 y0 st r2 e_r2) (cwV 2 hts (gd_V q_569 ko_M_numberAt) rfl rfl rfl kh_M_numberAt ⟨Nat.le_of_ble_eq_true rfl, Nat.le_of_ble_eq_true rfl⟩) 5 0 rfl rfl rfl rfl hl.1 rfl (Nat.le_of_ble_eq_true rfl) kd_M_unlink_48 ⟨Nat.zero_le _, Nat.zero_le _⟩ (fun H locs hP hD hS => ?_)
    refine W.eq (g2 := F0 m 51 ls [.int r2.1]) rfl ?_
    exact w_M_unlink_51 CX o x2 y0 r2.1 r2.2 hF H locs hP hD hS ls (lv_sub hl [1, 2, 0] rfl)
  · rw [if_neg c1] at hF
    refine lv_iconst (v := 0) hx hb kd_M_unlink_41 (by decide) ?_
    refine lv_goto (tgt := 51) hx hb kd_M_unlink_42 (by decide) ?_
    exact w_M_unlink_51 CX o x2 y0 (0 : Int32) st hF H locs hP hD hS ls (lv_sub hl [1, 2, 0] rfl)
def b_M_unlink_27 (x2 : Int32) (st : fb_S) : Option (Int32 × fb_S) := b_M_unlink_36 x2 (-1 : Int32) st
set_option maxHeartbeats 4000000 in
set_option maxRecDepth 100000 in
theorem w_M_unlink_27 {p : Program} {l : Launch} {e : Env} {s : State} {m : MethodId} {args : Array Value} {below : List Frame} {meth : Method} {c : Code} {A : Nat → Prop} {dC : Nat → ClassId} {dI : Nat → Nat → Nat} {dA : Nat → ClassId} {a : Nat → Nat} (CX : fb_C p s m args meth c kc_M_unlink (some .int) 6 "FileTreeModel" (dC, dI) vcl (tM dA) A zM) (o : Int32 × fb_S) (x2 : Int32) (st : fb_S) (hF : b_M_unlink_27 x2 st = some o) : fb_G p l e (headSpec kw_M_unlink rm_M_unlink).room s m args below meth c (dC, dI) vcl (tM dA) (wM dA a) A (some (.int o.1)) o.2 27 6 [(0, .ref (a 0)), (2, .int x2)] [] st := by
  intro H locs hP hD hS ls hl
  obtain ⟨hx, hb, hr, hml, hown, hts, hK, hA, hlocks, hZ⟩ := id CX
  unfold b_M_unlink_27 at hF
  refine lv_iconst (v := (-1)) hx hb kd_M_unlink_27 (by decide) ?_
  refine lv_goto (tgt := 36) hx hb kd_M_unlink_28 (by decide) ?_
  exact w_M_unlink_36 CX o x2 (-1 : Int32) st hF H locs hP hD hS ls (lv_sub hl [0, 1] rfl)
def f_M_unlink (x1 : Int32) (st : fb_S) : Option (Int32 × fb_S) := (fb_pf st 14 (0 : Int32)).bind fun s1 => (f_M_taken s1).bind fun r2 => (f_M_before x1 (0 : Int32) r2.1 r2.2).bind fun r3 => (if r3.1 = (0 : Int32) then b_M_unlink_27 r3.1 r3.2 else (f_M_isDots r3.2).bind fun r5 => (if r5.1 = (0 : Int32) then (f_M_entry r3.1 r5.2).bind fun r7 => b_M_unlink_36 r3.1 r7.1 r7.2 else b_M_unlink_27 r3.1 r5.2))
set_option maxHeartbeats 4000000 in
set_option maxRecDepth 100000 in
theorem w_M_unlink_0 {p : Program} {l : Launch} {e : Env} {s : State} {m : MethodId} {args : Array Value} {below : List Frame} {meth : Method} {c : Code} {A : Nat → Prop} {dC : Nat → ClassId} {dI : Nat → Nat → Nat} {dA : Nat → ClassId} {a : Nat → Nat} (CX : fb_C p s m args meth c kc_M_unlink (some .int) 6 "FileTreeModel" (dC, dI) vcl (tM dA) A zM) (o : Int32 × fb_S) (x1 : Int32) (st : fb_S) (hF : f_M_unlink x1 st = some o) : fb_G p l e (headSpec kw_M_unlink rm_M_unlink).room s m args below meth c (dC, dI) vcl (tM dA) (wM dA a) A (some (.int o.1)) o.2 0 6 [(0, .ref (a 0)), (1, .int x1)] [] st := by
  intro H locs hP hD hS ls hl
  obtain ⟨hx, hb, hr, hml, hown, hts, hK, hA, hlocks, hZ⟩ := id CX
  unfold f_M_unlink at hF
  refine lv_aload_n hx hb kd_M_unlink_0 rfl (lv_at hl 0 rfl) ?_
  refine lv_iconst (v := 0) hx hb kd_M_unlink_1 (by decide) ?_
  obtain ⟨s1, e_s1, hF⟩ := fb_ob hF
  refine va_put (D := (dC, dI)) (ci := 5) (v := .int (0 : Int32)) (ty := .int) (C := "FileTreeModel") (T := ft_M) (N := 18) hx hb hts fi_M fy_M fo_M fn_M hown hK hP hD hS 0 rfl rfl 0 (by decide) (hts _ q_469) (fun _ h9 => h9) rfl (by decide +kernel) rfl rfl (Nat.le_of_ble_eq_true rfl) kd_M_unlink_2 (fun H locs hP hD hS => ?_)
  cases e_s1
  obtain ⟨s1, e_s1⟩ : ∃ z : fb_S, z = va_up st 14 (upd (st 14) 0 (0 : Int32)) := ⟨_, rfl⟩
  rw [← e_s1] at hF
  have hP : va_P (dC, dI) vcl ((wM dA a) s1) H := by rw [e_s1]; exact hP
  have hD : va_D A ((wM dA a) s1) := by rw [e_s1]; exact hD
  refine lv_aload_n hx hb kd_M_unlink_5 rfl (lv_at hl 0 rfl) ?_
  refine lv_iload_n hx hb kd_M_unlink_6 rfl (lv_at hl 1 rfl) ?_
  refine lv_iconst (v := 0) hx hb kd_M_unlink_7 (by decide) ?_
  refine lv_aload_n hx hb kd_M_unlink_8 rfl (lv_at hl 0 rfl) ?_
  obtain ⟨r2, e_r2, hF⟩ := fb_ob hF
  refine fb_callV (As := []) (rest := [.int (0 : Int32), .int x1, .ref (a 0)]) ⟨hx, hb, hml, hown, hts⟩ zM_mv hZ hK hP hD hS hA (c_M_taken l dC dI dA a s1 r2 e_r2) (cwV 0 hts (gd_V q_534 ko_M_taken) rfl rfl rfl kh_M_taken ⟨Nat.le_of_ble_eq_true rfl, Nat.le_of_ble_eq_true rfl⟩) 5 0 rfl rfl rfl rfl hl.1 rfl (Nat.le_of_ble_eq_true rfl) kd_M_unlink_9 ⟨Nat.zero_le _, Nat.zero_le _⟩ (fun H locs hP hD hS => ?_)
  refine W.eq (g2 := F0 m 12 ls [.int r2.1, .int (0 : Int32), .int x1, .ref (a 0)]) rfl ?_
  obtain ⟨r3, e_r3, hF⟩ := fb_ob hF
  refine fb_callV (As := [.int x1, .int (0 : Int32), .int r2.1]) (rest := []) ⟨hx, hb, hml, hown, hts⟩ zM_mv hZ hK hP hD hS hA (c_M_before l dC dI dA a x1 (0 : Int32) r2.1 r2.2 r3 e_r3) (cwV 3 hts (gd_V q_577 ko_M_before) rfl rfl rfl kh_M_before ⟨Nat.le_of_ble_eq_true rfl, Nat.le_of_ble_eq_true rfl⟩) 5 0 rfl rfl rfl rfl hl.1 rfl (Nat.le_of_ble_eq_true rfl) kd_M_unlink_12 ⟨Nat.zero_le _, Nat.zero_le _⟩ (fun H locs hP hD hS => ?_)
  refine W.eq (g2 := F0 m 15 ls [.int r3.1]) rfl ?_
  refine lv_istore_n (lv' := [(2, .int r3.1), (0, .ref (a 0)), (1, .int x1)]) hx hb kd_M_unlink_15 rfl hl (by decide) rfl (fun ls hl => ?_)
  refine lv_iload_n hx hb kd_M_unlink_16 rfl (lv_at hl 0 rfl) ?_
  refine lv_if_eq (tgt := 27) hx hb kd_M_unlink_17 (by decide) (fun c4 => ?_) (fun c4 => ?_)
  · rw [if_pos c4] at hF
    exact w_M_unlink_27 CX o r3.1 r3.2 hF H locs hP hD hS ls (lv_sub hl [1, 0] rfl)
  · rw [if_neg c4] at hF
    refine lv_aload_n hx hb kd_M_unlink_20 rfl (lv_at hl 1 rfl) ?_
    obtain ⟨r5, e_r5, hF⟩ := fb_ob hF
    refine fb_callV (As := []) (rest := []) ⟨hx, hb, hml, hown, hts⟩ zM_mv hZ hK hP hD hS hA (c_M_isDots l dC dI dA a r3.2 r5 e_r5) (cwV 0 hts (gd_V q_615 ko_M_isDots) rfl rfl rfl kh_M_isDots ⟨Nat.le_of_ble_eq_true rfl, Nat.le_of_ble_eq_true rfl⟩) 5 0 rfl rfl rfl rfl hl.1 rfl (Nat.le_of_ble_eq_true rfl) kd_M_unlink_21 ⟨Nat.zero_le _, Nat.zero_le _⟩ (fun H locs hP hD hS => ?_)
    refine W.eq (g2 := F0 m 24 ls [.int r5.1]) rfl ?_
    refine lv_if_eq (tgt := 31) hx hb kd_M_unlink_24 (by decide) (fun c6 => ?_) (fun c6 => ?_)
    · rw [if_pos c6] at hF
      refine lv_aload_n hx hb kd_M_unlink_31 rfl (lv_at hl 1 rfl) ?_
      refine lv_iload_n hx hb kd_M_unlink_32 rfl (lv_at hl 0 rfl) ?_
      obtain ⟨r7, e_r7, hF⟩ := fb_ob hF
      refine fb_callV (As := [.int r3.1]) (rest := []) ⟨hx, hb, hml, hown, hts⟩ zM_mv hZ hK hP hD hS hA (c_M_entry l dC dI dA a r3.1 r5.2 r7 e_r7) (cwV 1 hts (gd_V q_565 ko_M_entry) rfl rfl rfl kh_M_entry ⟨Nat.le_of_ble_eq_true rfl, Nat.le_of_ble_eq_true rfl⟩) 5 0 rfl rfl rfl rfl hl.1 rfl (Nat.le_of_ble_eq_true rfl) kd_M_unlink_33 ⟨Nat.zero_le _, Nat.zero_le _⟩ (fun H locs hP hD hS => ?_)
      refine W.eq (g2 := F0 m 36 ls [.int r7.1]) rfl ?_
      exact w_M_unlink_36 CX o r3.1 r7.1 r7.2 hF H locs hP hD hS ls (lv_sub hl [1, 0] rfl)
    · rw [if_neg c6] at hF
      exact w_M_unlink_27 CX o r3.1 r5.2 hF H locs hP hD hS ls (lv_sub hl [1, 0] rfl)
theorem c_M_unlink (l : Launch) (dC : Nat → ClassId) (dI : Nat → Nat → Nat) (dA : Nat → ClassId) (a : Nat → Nat) (x1 : Int32) (st : fb_S) (o : Int32 × fb_S) (h : f_M_unlink x1 st = some o) : fb_M l ky_M_unlink kw_M_unlink rm_M_unlink (dC, dI) vcl (tM dA) (wM dA a) zM [.ref (a 0), .int x1] (some (.int o.1)) st o.2 := fb_enter (by decide) rfl (Nat.le_of_ble_eq_true rfl) (fun p e s m below meth c A CX hP hD hS ls hl => w_M_unlink_0 CX o x1 st h s.heap [] hP hD hS ls hl)
