abbrev rm_M_named : Room := { frames := 1, cells := 0, slots := 0, locals := 20 }
def b_M_named_90 (k44 : Int32 → Int32 → fb_S → Option (Int32 × fb_S)) (x1 : Int32) (x2 : Int32) (st : fb_S) : Option (Int32 × fb_S) := (fb_pf st 16 ((st 16 0) + (1 : Int32))).bind fun s1 => k44 x1 (x2 + (1 : Int32)) s1
set_option maxHeartbeats 4000000 in
set_option maxRecDepth 100000 in
theorem w_M_named_90 {p : Program} {l : Launch} {e : Env} {s : State} {m : MethodId} {args : Array Value} {below : List Frame} {meth : Method} {c : Code} {A : Nat → Prop} {dC : Nat → ClassId} {dI : Nat → Nat → Nat} {dA : Nat → ClassId} {a : Nat → Nat} (CX : fb_C p s m args meth c kc_M_named (some .boolean) 3 "FileTreeModel" (dC, dI) vcl (tM dA) A zM) (o : Int32 × fb_S) (k44 : Int32 → Int32 → fb_S → Option (Int32 × fb_S)) (hk44 : ∀ (x1 : Int32) (x2 : Int32) (st : fb_S), k44 x1 x2 st = some o → fb_G p l e (headSpec kw_M_named rm_M_named).room s m args below meth c (dC, dI) vcl (tM dA) (wM dA a) A (some (.int o.1)) o.2 44 3 [(0, .ref (a 0)), (1, .int x1), (2, .int x2)] [] st) (x1 : Int32) (x2 : Int32) (st : fb_S) (hF : b_M_named_90 k44 x1 x2 st = some o) : fb_G p l e (headSpec kw_M_named rm_M_named).room s m args below meth c (dC, dI) vcl (tM dA) (wM dA a) A (some (.int o.1)) o.2 90 3 [(0, .ref (a 0)), (1, .int x1), (2, .int x2)] [] st := by
  intro H locs hP hD hS ls hl
  obtain ⟨hx, hb, hr, hml, hown, hts, hK, hA, hlocks, hZ⟩ := id CX
  unfold b_M_named_90 at hF
  refine lv_aload_n hx hb kd_M_named_90 rfl (lv_at hl 0 rfl) ?_
  refine lv_dup hx hb kd_M_named_91 rfl ?_
  refine va_get (D := (dC, dI)) (ci := 5) (v := .int (st 16 0)) (C := "FileTreeModel") (T := ft_M) (N := 18) hx hb hts fi_M hown hK hP 0 rfl rfl 15 (by decide) (hts _ q_484) (fun _ h9 => h9) rfl kd_M_named_92 ?_
  refine lv_iconst (v := 1) hx hb kd_M_named_95 (by decide) ?_
  refine lv_iadd hx hb kd_M_named_96 ?_
  obtain ⟨s1, e_s1, hF⟩ := fb_ob hF
  refine va_put (D := (dC, dI)) (ci := 5) (v := .int ((st 16 0) + (1 : Int32))) (ty := .int) (C := "FileTreeModel") (T := ft_M) (N := 18) hx hb hts fi_M fy_M fo_M fn_M hown hK hP hD hS 0 rfl rfl 15 (by decide) (hts _ q_484) (fun _ h9 => h9) rfl (by decide +kernel) rfl rfl (Nat.le_of_ble_eq_true rfl) kd_M_named_97 (fun H locs hP hD hS => ?_)
  cases e_s1
  obtain ⟨s1, e_s1⟩ : ∃ z : fb_S, z = va_up st 16 (upd (st 16) 0 ((st 16 0) + (1 : Int32))) := ⟨_, rfl⟩
  rw [← e_s1] at hF
  have hP : va_P (dC, dI) vcl ((wM dA a) s1) H := by rw [e_s1]; exact hP
  have hD : va_D A ((wM dA a) s1) := by rw [e_s1]; exact hD
  refine lv_iinc (v := x2 + (1 : Int32)) (lv' := [(2, .int (x2 + (1 : Int32))), (0, .ref (a 0)), (1, .int x1)]) hx hb kd_M_named_100 hl (k := 2) rfl rfl (by decide) rfl (fun ls hl => ?_)
  refine lv_goto (tgt := 44) hx hb kd_M_named_103 (by decide) ?_
  exact hk44 x1 (x2 + (1 : Int32)) s1 hF H locs hP hD hS ls (lv_sub hl [1, 2, 0] rfl)
def b_M_named_44 (k44 : Int32 → Int32 → fb_S → Option (Int32 × fb_S)) (x1 : Int32) (x2 : Int32) (st : fb_S) : Option (Int32 × fb_S) := (if (st 17 0) ≤ (st 16 0) then fb_rz x1 st else (fb_ld (st 0) 260 (st 16 0)).bind fun v2 => (if v2 = (47 : Int32) then fb_rz x1 st else (if (14 : Int32) ≤ x2 then b_M_named_90 k44 x1 x2 st else (fb_ld (st 0) 260 (st 16 0)).bind fun v5 => (fb_st st 13 14 x2 (fb_b v5)).bind fun s6 => b_M_named_90 k44 x1 x2 s6)))
set_option maxHeartbeats 4000000 in
set_option maxRecDepth 100000 in
theorem w_M_named_44 {p : Program} {l : Launch} {e : Env} {s : State} {m : MethodId} {args : Array Value} {below : List Frame} {meth : Method} {c : Code} {A : Nat → Prop} {dC : Nat → ClassId} {dI : Nat → Nat → Nat} {dA : Nat → ClassId} {a : Nat → Nat} (CX : fb_C p s m args meth c kc_M_named (some .boolean) 3 "FileTreeModel" (dC, dI) vcl (tM dA) A zM) (o : Int32 × fb_S) (k44 : Int32 → Int32 → fb_S → Option (Int32 × fb_S)) (hk44 : ∀ (x1 : Int32) (x2 : Int32) (st : fb_S), k44 x1 x2 st = some o → fb_G p l e (headSpec kw_M_named rm_M_named).room s m args below meth c (dC, dI) vcl (tM dA) (wM dA a) A (some (.int o.1)) o.2 44 3 [(0, .ref (a 0)), (1, .int x1), (2, .int x2)] [] st) (x1 : Int32) (x2 : Int32) (st : fb_S) (hF : b_M_named_44 k44 x1 x2 st = some o) : fb_G p l e (headSpec kw_M_named rm_M_named).room s m args below meth c (dC, dI) vcl (tM dA) (wM dA a) A (some (.int o.1)) o.2 44 3 [(0, .ref (a 0)), (1, .int x1), (2, .int x2)] [] st := by
  intro H locs hP hD hS ls hl
  obtain ⟨hx, hb, hr, hml, hown, hts, hK, hA, hlocks, hZ⟩ := id CX
  unfold b_M_named_44 at hF
  refine lv_aload_n hx hb kd_M_named_44 rfl (lv_at hl 0 rfl) ?_
  refine va_get (D := (dC, dI)) (ci := 5) (v := .int (st 16 0)) (C := "FileTreeModel") (T := ft_M) (N := 18) hx hb hts fi_M hown hK hP 0 rfl rfl 15 (by decide) (hts _ q_484) (fun _ h9 => h9) rfl kd_M_named_45 ?_
  refine lv_aload_n hx hb kd_M_named_48 rfl (lv_at hl 0 rfl) ?_
  refine va_get (D := (dC, dI)) (ci := 5) (v := .int (st 17 0)) (C := "FileTreeModel") (T := ft_M) (N := 18) hx hb hts fi_M hown hK hP 0 rfl rfl 16 (by decide) (hts _ q_485) (fun _ h9 => h9) rfl kd_M_named_49 ?_
  refine lv_icmp_ge (tgt := 106) hx hb kd_M_named_52 (by decide) (fun c1 => ?_) (fun c1 => ?_)
  · rw [if_pos c1] at hF
    refine lv_iload_n hx hb kd_M_named_106 rfl (lv_at hl 1 rfl) ?_
    exact fb_rb (o := o) hx hb hr hlocks hK hP hD hS hF kd_M_named_107
  · rw [if_neg c1] at hF
    refine lv_aload_n hx hb kd_M_named_55 rfl (lv_at hl 0 rfl) ?_
    refine va_get (D := (dC, dI)) (ci := 5) (v := .ref (a 1)) (C := "FileTreeModel") (T := ft_M) (N := 18) hx hb hts fi_M hown hK hP 0 rfl rfl 2 (by decide) (hts _ q_471) (fun _ h9 => h9) rfl kd_M_named_56 ?_
    refine lv_aload_n hx hb kd_M_named_59 rfl (lv_at hl 0 rfl) ?_
    refine va_get (D := (dC, dI)) (ci := 5) (v := .int (st 16 0)) (C := "FileTreeModel") (T := ft_M) (N := 18) hx hb hts fi_M hown hK hP 0 rfl rfl 15 (by decide) (hts _ q_484) (fun _ h9 => h9) rfl kd_M_named_60 ?_
    obtain ⟨v2, e_v2, hF⟩ := fb_ob hF
    refine fb_bald hx hb hK hP 1 1 rfl rfl e_v2 kd_M_named_63 ?_
    refine lv_bipush (v := 47) hx hb kd_M_named_64 (by decide) ?_
    refine lv_icmp_eq (tgt := 106) hx hb kd_M_named_66 (by decide) (fun c3 => ?_) (fun c3 => ?_)
    · rw [if_pos c3] at hF
      refine lv_iload_n hx hb kd_M_named_106 rfl (lv_at hl 1 rfl) ?_
      exact fb_rb (o := o) hx hb hr hlocks hK hP hD hS hF kd_M_named_107
    · rw [if_neg c3] at hF
      refine lv_iload_n hx hb kd_M_named_69 rfl (lv_at hl 2 rfl) ?_
      refine lv_bipush (v := 14) hx hb kd_M_named_70 (by decide) ?_
      refine lv_icmp_ge (tgt := 90) hx hb kd_M_named_72 (by decide) (fun c4 => ?_) (fun c4 => ?_)
      · rw [if_pos c4] at hF
        exact w_M_named_90 CX o k44 hk44 x1 x2 st hF H locs hP hD hS ls (lv_sub hl [0, 1, 2] rfl)
      · rw [if_neg c4] at hF
        refine lv_aload_n hx hb kd_M_named_75 rfl (lv_at hl 0 rfl) ?_
        refine va_get (D := (dC, dI)) (ci := 5) (v := .ref (a 14)) (C := "FileTreeModel") (T := ft_M) (N := 18) hx hb hts fi_M hown hK hP 0 rfl rfl 17 (by decide) (hts _ q_486) (fun _ h9 => h9) rfl kd_M_named_76 ?_
        refine lv_iload_n hx hb kd_M_named_79 rfl (lv_at hl 2 rfl) ?_
        refine lv_aload_n hx hb kd_M_named_80 rfl (lv_at hl 0 rfl) ?_
        refine va_get (D := (dC, dI)) (ci := 5) (v := .ref (a 1)) (C := "FileTreeModel") (T := ft_M) (N := 18) hx hb hts fi_M hown hK hP 0 rfl rfl 2 (by decide) (hts _ q_471) (fun _ h9 => h9) rfl kd_M_named_81 ?_
        refine lv_aload_n hx hb kd_M_named_84 rfl (lv_at hl 0 rfl) ?_
        refine va_get (D := (dC, dI)) (ci := 5) (v := .int (st 16 0)) (C := "FileTreeModel") (T := ft_M) (N := 18) hx hb hts fi_M hown hK hP 0 rfl rfl 15 (by decide) (hts _ q_484) (fun _ h9 => h9) rfl kd_M_named_85 ?_
        obtain ⟨v5, e_v5, hF⟩ := fb_ob hF
        refine fb_bald hx hb hK hP 1 1 rfl rfl e_v5 kd_M_named_88 ?_
        obtain ⟨s6, e_s6, hF⟩ := fb_ob hF
        refine fb_bast (wx := (wM dA a)) (k := 13) hx hb hK hP hD hS 14 1 rfl rfl e_s6 (fun _ => rfl) kd_M_named_89 (fun H locs hP hD hS => ?_)
        exact w_M_named_90 CX o k44 hk44 x1 x2 s6 hF H locs hP hD hS ls (lv_sub hl [0, 1, 2] rfl)
def l_M_named_44 : Nat → Int32 → Int32 → fb_S → Option (Int32 × fb_S)
  | 0 => fun _ _ _ => none
  | n + 1 => b_M_named_44 (l_M_named_44 n)
theorem v_M_named_44 {p : Program} {l : Launch} {e : Env} {s : State} {m : MethodId} {args : Array Value} {below : List Frame} {meth : Method} {c : Code} {A : Nat → Prop} {dC : Nat → ClassId} {dI : Nat → Nat → Nat} {dA : Nat → ClassId} {a : Nat → Nat} (CX : fb_C p s m args meth c kc_M_named (some .boolean) 3 "FileTreeModel" (dC, dI) vcl (tM dA) A zM) (o : Int32 × fb_S) (n : Nat) : ∀ (x1 : Int32) (x2 : Int32) (st : fb_S), l_M_named_44 n x1 x2 st = some o → fb_G p l e (headSpec kw_M_named rm_M_named).room s m args below meth c (dC, dI) vcl (tM dA) (wM dA a) A (some (.int o.1)) o.2 44 3 [(0, .ref (a 0)), (1, .int x1), (2, .int x2)] [] st := by
  induction n with
  | zero => intro x1 x2 st hF; cases hF
  | succ n ih => intro x1 x2 st hF; exact w_M_named_44 CX o (l_M_named_44 n) ih x1 x2 st hF
def b_M_named_23 (k23 : Int32 → Int32 → fb_S → Option (Int32 × fb_S)) (x1 : Int32) (x2 : Int32) (st : fb_S) : Option (Int32 × fb_S) := (if (14 : Int32) ≤ x2 then l_M_named_44 fb_n x1 (0 : Int32) st else (fb_st st 13 14 x2 (fb_b (0 : Int32))).bind fun s2 => k23 x1 (x2 + (1 : Int32)) s2)
set_option maxHeartbeats 4000000 in
set_option maxRecDepth 100000 in
theorem w_M_named_23 {p : Program} {l : Launch} {e : Env} {s : State} {m : MethodId} {args : Array Value} {below : List Frame} {meth : Method} {c : Code} {A : Nat → Prop} {dC : Nat → ClassId} {dI : Nat → Nat → Nat} {dA : Nat → ClassId} {a : Nat → Nat} (CX : fb_C p s m args meth c kc_M_named (some .boolean) 3 "FileTreeModel" (dC, dI) vcl (tM dA) A zM) (o : Int32 × fb_S) (k23 : Int32 → Int32 → fb_S → Option (Int32 × fb_S)) (hk23 : ∀ (x1 : Int32) (x2 : Int32) (st : fb_S), k23 x1 x2 st = some o → fb_G p l e (headSpec kw_M_named rm_M_named).room s m args below meth c (dC, dI) vcl (tM dA) (wM dA a) A (some (.int o.1)) o.2 23 3 [(0, .ref (a 0)), (1, .int x1), (2, .int x2)] [] st) (x1 : Int32) (x2 : Int32) (st : fb_S) (hF : b_M_named_23 k23 x1 x2 st = some o) : fb_G p l e (headSpec kw_M_named rm_M_named).room s m args below meth c (dC, dI) vcl (tM dA) (wM dA a) A (some (.int o.1)) o.2 23 3 [(0, .ref (a 0)), (1, .int x1), (2, .int x2)] [] st := by
  intro H locs hP hD hS ls hl
  obtain ⟨hx, hb, hr, hml, hown, hts, hK, hA, hlocks, hZ⟩ := id CX
  unfold b_M_named_23 at hF
  refine lv_iload_n hx hb kd_M_named_23 rfl (lv_at hl 2 rfl) ?_
  refine lv_bipush (v := 14) hx hb kd_M_named_24 (by decide) ?_
  refine lv_icmp_ge (tgt := 42) hx hb kd_M_named_26 (by decide) (fun c1 => ?_) (fun c1 => ?_)
  · rw [if_pos c1] at hF
    refine lv_iconst (v := 0) hx hb kd_M_named_42 (by decide) ?_
    refine lv_istore_n (lv' := [(2, .int (0 : Int32)), (0, .ref (a 0)), (1, .int x1)]) hx hb kd_M_named_43 rfl hl (by decide) rfl (fun ls hl => ?_)
    exact v_M_named_44 CX o fb_n x1 (0 : Int32) st hF H locs hP hD hS ls (lv_sub hl [1, 2, 0] rfl)
  · rw [if_neg c1] at hF
    refine lv_aload_n hx hb kd_M_named_29 rfl (lv_at hl 0 rfl) ?_
    refine va_get (D := (dC, dI)) (ci := 5) (v := .ref (a 14)) (C := "FileTreeModel") (T := ft_M) (N := 18) hx hb hts fi_M hown hK hP 0 rfl rfl 17 (by decide) (hts _ q_486) (fun _ h9 => h9) rfl kd_M_named_30 ?_
    refine lv_iload_n hx hb kd_M_named_33 rfl (lv_at hl 2 rfl) ?_
    refine lv_iconst (v := 0) hx hb kd_M_named_34 (by decide) ?_
    obtain ⟨s2, e_s2, hF⟩ := fb_ob hF
    refine fb_bast (wx := (wM dA a)) (k := 13) hx hb hK hP hD hS 14 1 rfl rfl e_s2 (fun _ => rfl) kd_M_named_35 (fun H locs hP hD hS => ?_)
    refine lv_iinc (v := x2 + (1 : Int32)) (lv' := [(2, .int (x2 + (1 : Int32))), (0, .ref (a 0)), (1, .int x1)]) hx hb kd_M_named_36 hl (k := 2) rfl rfl (by decide) rfl (fun ls hl => ?_)
    refine lv_goto (tgt := 23) hx hb kd_M_named_39 (by decide) ?_
    exact hk23 x1 (x2 + (1 : Int32)) s2 hF H locs hP hD hS ls (lv_sub hl [1, 2, 0] rfl)
def l_M_named_23 : Nat → Int32 → Int32 → fb_S → Option (Int32 × fb_S)
  | 0 => fun _ _ _ => none
  | n + 1 => b_M_named_23 (l_M_named_23 n)
theorem v_M_named_23 {p : Program} {l : Launch} {e : Env} {s : State} {m : MethodId} {args : Array Value} {below : List Frame} {meth : Method} {c : Code} {A : Nat → Prop} {dC : Nat → ClassId} {dI : Nat → Nat → Nat} {dA : Nat → ClassId} {a : Nat → Nat} (CX : fb_C p s m args meth c kc_M_named (some .boolean) 3 "FileTreeModel" (dC, dI) vcl (tM dA) A zM) (o : Int32 × fb_S) (n : Nat) : ∀ (x1 : Int32) (x2 : Int32) (st : fb_S), l_M_named_23 n x1 x2 st = some o → fb_G p l e (headSpec kw_M_named rm_M_named).room s m args below meth c (dC, dI) vcl (tM dA) (wM dA a) A (some (.int o.1)) o.2 23 3 [(0, .ref (a 0)), (1, .int x1), (2, .int x2)] [] st := by
  induction n with
  | zero => intro x1 x2 st hF; cases hF
  | succ n ih => intro x1 x2 st hF; exact w_M_named_23 CX o (l_M_named_23 n) ih x1 x2 st hF
def b_M_named_20 (y0 : Int32) (st : fb_S) : Option (Int32 × fb_S) := l_M_named_23 fb_n y0 (0 : Int32) st
set_option maxHeartbeats 4000000 in
set_option maxRecDepth 100000 in
theorem w_M_named_20 {p : Program} {l : Launch} {e : Env} {s : State} {m : MethodId} {args : Array Value} {below : List Frame} {meth : Method} {c : Code} {A : Nat → Prop} {dC : Nat → ClassId} {dI : Nat → Nat → Nat} {dA : Nat → ClassId} {a : Nat → Nat} (CX : fb_C p s m args meth c kc_M_named (some .boolean) 3 "FileTreeModel" (dC, dI) vcl (tM dA) A zM) (o : Int32 × fb_S) (y0 : Int32) (st : fb_S) (hF : b_M_named_20 y0 st = some o) : fb_G p l e (headSpec kw_M_named rm_M_named).room s m args below meth c (dC, dI) vcl (tM dA) (wM dA a) A (some (.int o.1)) o.2 20 3 [(0, .ref (a 0))] [.int y0] st := by
  intro H locs hP hD hS ls hl
  obtain ⟨hx, hb, hr, hml, hown, hts, hK, hA, hlocks, hZ⟩ := id CX
  unfold b_M_named_20 at hF
  refine lv_istore_n (lv' := [(1, .int y0), (0, .ref (a 0))]) hx hb kd_M_named_20 rfl hl (by decide) rfl (fun ls hl => ?_)
  refine lv_iconst (v := 0) hx hb kd_M_named_21 (by decide) ?_
  refine lv_istore_n (lv' := [(2, .int (0 : Int32)), (1, .int y0), (0, .ref (a 0))]) hx hb kd_M_named_22 rfl hl (by decide) rfl (fun ls hl => ?_)
  exact v_M_named_23 CX o fb_n y0 (0 : Int32) st hF H locs hP hD hS ls (lv_sub hl [2, 1, 0] rfl)
def f_M_named (st : fb_S) : Option (Int32 × fb_S) := (f_M_slashes st).bind fun r1 => (if (r1.2 17 0) ≤ (r1.2 16 0) then b_M_named_20 (0 : Int32) r1.2 else b_M_named_20 (1 : Int32) r1.2)
set_option maxHeartbeats 4000000 in
set_option maxRecDepth 100000 in
theorem w_M_named_0 {p : Program} {l : Launch} {e : Env} {s : State} {m : MethodId} {args : Array Value} {below : List Frame} {meth : Method} {c : Code} {A : Nat → Prop} {dC : Nat → ClassId} {dI : Nat → Nat → Nat} {dA : Nat → ClassId} {a : Nat → Nat} (CX : fb_C p s m args meth c kc_M_named (some .boolean) 3 "FileTreeModel" (dC, dI) vcl (tM dA) A zM) (o : Int32 × fb_S) (st : fb_S) (hF : f_M_named st = some o) : fb_G p l e (headSpec kw_M_named rm_M_named).room s m args below meth c (dC, dI) vcl (tM dA) (wM dA a) A (some (.int o.1)) o.2 0 3 [(0, .ref (a 0))] [] st := by
  intro H locs hP hD hS ls hl
  obtain ⟨hx, hb, hr, hml, hown, hts, hK, hA, hlocks, hZ⟩ := id CX
  unfold f_M_named at hF
  refine lv_aload_n hx hb kd_M_named_0 rfl (lv_at hl 0 rfl) ?_
  obtain ⟨r1, e_r1, hF⟩ := fb_ob hF
  refine fb_callV (As := []) (rest := []) ⟨hx, hb, hml, hown, hts⟩ zM_mv hZ hK hP hD hS hA (c_M_slashes l dC dI dA a st r1 e_r1) (cwV 0 hts (gd_V q_557 ko_M_slashes) rfl rfl rfl kh_M_slashes ⟨Nat.le_of_ble_eq_true rfl, Nat.le_of_ble_eq_true rfl⟩) 5 0 rfl rfl rfl rfl hl.1 rfl (Nat.le_of_ble_eq_true rfl) kd_M_named_1 ⟨Nat.zero_le _, Nat.zero_le _⟩ (fun H locs hP hD hS => ?_)
  refine W.eq (g2 := F0 m 4 ls []) rfl ?_
  refine lv_aload_n hx hb kd_M_named_4 rfl (lv_at hl 0 rfl) ?_
  refine va_get (D := (dC, dI)) (ci := 5) (v := .int (r1.2 16 0)) (C := "FileTreeModel") (T := ft_M) (N := 18) hx hb hts fi_M hown hK hP 0 rfl rfl 15 (by decide) (hts _ q_484) (fun _ h9 => h9) rfl kd_M_named_5 ?_
  refine lv_aload_n hx hb kd_M_named_8 rfl (lv_at hl 0 rfl) ?_
  refine va_get (D := (dC, dI)) (ci := 5) (v := .int (r1.2 17 0)) (C := "FileTreeModel") (T := ft_M) (N := 18) hx hb hts fi_M hown hK hP 0 rfl rfl 16 (by decide) (hts _ q_485) (fun _ h9 => h9) rfl kd_M_named_9 ?_
  refine lv_icmp_ge (tgt := 19) hx hb kd_M_named_12 (by decide) (fun c2 => ?_) (fun c2 => ?_)
  · rw [if_pos c2] at hF
    refine lv_iconst (v := 0) hx hb kd_M_named_19 (by decide) ?_
    exact w_M_named_20 CX o (0 : Int32) r1.2 hF H locs hP hD hS ls (lv_sub hl [0] rfl)
  · rw [if_neg c2] at hF
    refine lv_iconst (v := 1) hx hb kd_M_named_15 (by decide) ?_
    refine lv_goto (tgt := 20) hx hb kd_M_named_16 (by decide) ?_
    exact w_M_named_20 CX o (1 : Int32) r1.2 hF H locs hP hD hS ls (lv_sub hl [0] rfl)
theorem c_M_named (l : Launch) (dC : Nat → ClassId) (dI : Nat → Nat → Nat) (dA : Nat → ClassId) (a : Nat → Nat) (st : fb_S) (o : Int32 × fb_S) (h : f_M_named st = some o) : fb_M l ky_M_named kw_M_named rm_M_named (dC, dI) vcl (tM dA) (wM dA a) zM [.ref (a 0)] (some (.int o.1)) st o.2 := fb_enter (by decide) rfl (Nat.le_of_ble_eq_true rfl) (fun p e s m below meth c A CX hP hD hS ls hl => w_M_named_0 CX o st h s.heap [] hP hD hS ls hl)
abbrev rm_M_numberAt : Room := { frames := 1, cells := 0, slots := 0, locals := 22 }
def f_M_numberAt (x1 : Int32) (x2 : Int32) (st : fb_S) : Option (Int32 × fb_S) := (f_M_place x1 x2 st).bind fun r1 => (fb_ld (r1.2 2) 524288 r1.1).bind fun v2 => (fb_ld (r1.2 2) 524288 (r1.1 + (1 : Int32))).bind fun v3 => some ((v2 &&& (255 : Int32)) ||| ((v3 &&& (255 : Int32)) <<< ((8 : Int32) &&& 31)), r1.2)
set_option maxHeartbeats 4000000 in
set_option maxRecDepth 100000 in
theorem w_M_numberAt_0 {p : Program} {l : Launch} {e : Env} {s : State} {m : MethodId} {args : Array Value} {below : List Frame} {meth : Method} {c : Code} {A : Nat → Prop} {dC : Nat → ClassId} {dI : Nat → Nat → Nat} {dA : Nat → ClassId} {a : Nat → Nat} (CX : fb_C p s m args meth c kc_M_numberAt (some .int) 4 "FileTreeModel" (dC, dI) vcl (tM dA) A zM) (o : Int32 × fb_S) (x1 : Int32) (x2 : Int32) (st : fb_S) (hF : f_M_numberAt x1 x2 st = some o) : fb_G p l e (headSpec kw_M_numberAt rm_M_numberAt).room s m args below meth c (dC, dI) vcl (tM dA) (wM dA a) A (some (.int o.1)) o.2 0 4 [(0, .ref (a 0)), (1, .int x1), (2, .int x2)] [] st := by
  intro H locs hP hD hS ls hl
  obtain ⟨hx, hb, hr, hml, hown, hts, hK, hA, hlocks, hZ⟩ := id CX
  unfold f_M_numberAt at hF
  refine lv_aload_n hx hb kd_M_numberAt_0 rfl (lv_at hl 0 rfl) ?_
  refine lv_iload_n hx hb kd_M_numberAt_1 rfl (lv_at hl 1 rfl) ?_
  refine lv_iload_n hx hb kd_M_numberAt_2 rfl (lv_at hl 2 rfl) ?_
  obtain ⟨r1, e_r1, hF⟩ := fb_ob hF
  refine fb_callV (As := [.int x1, .int x2]) (rest := []) ⟨hx, hb, hml, hown, hts⟩ zM_mv hZ hK hP hD hS hA (c_M_place l dC dI dA a x1 x2 st r1 e_r1) (cwV 2 hts (gd_V q_465 ko_M_place) rfl rfl rfl kh_M_place ⟨Nat.le_of_ble_eq_true rfl, Nat.le_of_ble_eq_true rfl⟩) 5 0 rfl rfl rfl rfl hl.1 rfl (Nat.le_of_ble_eq_true rfl) kd_M_numberAt_3 ⟨Nat.zero_le _, Nat.zero_le _⟩ (fun H locs hP hD hS => ?_)
  refine W.eq (g2 := F0 m 6 ls [.int r1.1]) rfl ?_
  refine lv_istore_n (lv' := [(3, .int r1.1), (0, .ref (a 0)), (1, .int x1), (2, .int x2)]) hx hb kd_M_numberAt_6 rfl hl (by decide) rfl (fun ls hl => ?_)
  refine lv_aload_n hx hb kd_M_numberAt_7 rfl (lv_at hl 1 rfl) ?_
  refine va_get (D := (dC, dI)) (ci := 5) (v := .ref (a 3)) (C := "FileTreeModel") (T := ft_M) (N := 18) hx hb hts fi_M hown hK hP 0 rfl rfl 4 (by decide) (hts _ q_473) (fun _ h9 => h9) rfl kd_M_numberAt_8 ?_
  refine lv_iload_n hx hb kd_M_numberAt_11 rfl (lv_at hl 0 rfl) ?_
  obtain ⟨v2, e_v2, hF⟩ := fb_ob hF
  refine fb_bald hx hb hK hP 3 1 rfl rfl e_v2 kd_M_numberAt_12 ?_
  refine lv_sipush (v := 255) hx hb kd_M_numberAt_13 (by decide) ?_
  refine lv_iand hx hb kd_M_numberAt_16 ?_
  refine lv_aload_n hx hb kd_M_numberAt_17 rfl (lv_at hl 1 rfl) ?_
  refine va_get (D := (dC, dI)) (ci := 5) (v := .ref (a 3)) (C := "FileTreeModel") (T := ft_M) (N := 18) hx hb hts fi_M hown hK hP 0 rfl rfl 4 (by decide) (hts _ q_473) (fun _ h9 => h9) rfl kd_M_numberAt_18 ?_
  refine lv_iload_n hx hb kd_M_numberAt_21 rfl (lv_at hl 0 rfl) ?_
  refine lv_iconst (v := 1) hx hb kd_M_numberAt_22 (by decide) ?_
  refine lv_iadd hx hb kd_M_numberAt_23 ?_
  obtain ⟨v3, e_v3, hF⟩ := fb_ob hF
  refine fb_bald hx hb hK hP 3 1 rfl rfl e_v3 kd_M_numberAt_24 ?_
  refine lv_sipush (v := 255) hx hb kd_M_numberAt_25 (by decide) ?_
  refine lv_iand hx hb kd_M_numberAt_28 ?_
  refine lv_bipush (v := 8) hx hb kd_M_numberAt_29 (by decide) ?_
  refine lv_ishl hx hb kd_M_numberAt_31 ?_
  refine lv_ior hx hb kd_M_numberAt_32 ?_
  exact fb_ri (o := o) hx hb hr hlocks hK hP hD hS hF kd_M_numberAt_33
theorem c_M_numberAt (l : Launch) (dC : Nat → ClassId) (dI : Nat → Nat → Nat) (dA : Nat → ClassId) (a : Nat → Nat) (x1 : Int32) (x2 : Int32) (st : fb_S) (o : Int32 × fb_S) (h : f_M_numberAt x1 x2 st = some o) : fb_M l ky_M_numberAt kw_M_numberAt rm_M_numberAt (dC, dI) vcl (tM dA) (wM dA a) zM [.ref (a 0), .int x1, .int x2] (some (.int o.1)) st o.2 := fb_enter (by decide) rfl (Nat.le_of_ble_eq_true rfl) (fun p e s m below meth c A CX hP hD hS ls hl => w_M_numberAt_0 CX o x1 x2 st h s.heap [] hP hD hS ls hl)
abbrev rm_M_entry : Room := { frames := 2, cells := 0, slots := 0, locals := 45 }
def b_M_entry_76 (k2 : Int32 → Int32 → fb_S → Option (Int32 × fb_S)) (k40 : Int32 → Int32 → Int32 → Int32 → Int32 → fb_S → Option (Int32 × fb_S)) (x1 : Int32) (x2 : Int32) (x4 : Int32) (x5 : Int32) (y0 : Int32) (st : fb_S) : Option (Int32 × fb_S) := k40 x1 x2 y0 x4 (x5 + (1 : Int32)) st
set_option maxHeartbeats 4000000 in
set_option maxRecDepth 100000 in
theorem w_M_entry_76 {p : Program} {l : Launch} {e : Env} {s : State} {m : MethodId} {args : Array Value} {below : List Frame} {meth : Method} {c : Code} {A : Nat → Prop} {dC : Nat → ClassId} {dI : Nat → Nat → Nat} {dA : Nat → ClassId} {a : Nat → Nat} (CX : fb_C p s m args meth c kc_M_entry (some .int) 6 "FileTreeModel" (dC, dI) vcl (tM dA) A zM) (o : Int32 × fb_S) (k2 : Int32 → Int32 → fb_S → Option (Int32 × fb_S)) (hk2 : ∀ (x1 : Int32) (x2 : Int32) (st : fb_S), k2 x1 x2 st = some o → fb_G p l e (headSpec kw_M_entry rm_M_entry).room s m args below meth c (dC, dI) vcl (tM dA) (wM dA a) A (some (.int o.1)) o.2 2 6 [(0, .ref (a 0)), (1, .int x1), (2, .int x2)] [] st) (k40 : Int32 → Int32 → Int32 → Int32 → Int32 → fb_S → Option (Int32 × fb_S)) (hk40 : ∀ (x1 : Int32) (x2 : Int32) (x3 : Int32) (x4 : Int32) (x5 : Int32) (st : fb_S), k40 x1 x2 x3 x4 x5 st = some o → fb_G p l e (headSpec kw_M_entry rm_M_entry).room s m args below meth c (dC, dI) vcl (tM dA) (wM dA a) A (some (.int o.1)) o.2 40 6 [(0, .ref (a 0)), (1, .int x1), (2, .int x2), (3, .int x3), (4, .int x4), (5, .int x5)] [] st) (x1 : Int32) (x2 : Int32) (x4 : Int32) (x5 : Int32) (y0 : Int32) (st : fb_S) (hF : b_M_entry_76 k2 k40 x1 x2 x4 x5 y0 st = some o) : fb_G p l e (headSpec kw_M_entry rm_M_entry).room s m args below meth c (dC, dI) vcl (tM dA) (wM dA a) A (some (.int o.1)) o.2 76 6 [(0, .ref (a 0)), (1, .int x1), (2, .int x2), (4, .int x4), (5, .int x5)] [.int y0] st := by
  intro H locs hP hD hS ls hl
  obtain ⟨hx, hb, hr, hml, hown, hts, hK, hA, hlocks, hZ⟩ := id CX
  unfold b_M_entry_76 at hF
  refine lv_istore_n (lv' := [(3, .int y0), (0, .ref (a 0)), (1, .int x1), (2, .int x2), (4, .int x4), (5, .int x5)]) hx hb kd_M_entry_76 rfl hl (by decide) rfl (fun ls hl => ?_)
  refine lv_iinc (v := x5 + (1 : Int32)) (lv' := [(5, .int (x5 + (1 : Int32))), (3, .int y0), (0, .ref (a 0)), (1, .int x1), (2, .int x2), (4, .int x4)]) hx hb kd_M_entry_77 hl (k := 5) rfl rfl (by decide) rfl (fun ls hl => ?_)
  refine lv_goto (tgt := 40) hx hb kd_M_entry_80 (by decide) ?_
  exact hk40 x1 x2 y0 x4 (x5 + (1 : Int32)) st hF H locs hP hD hS ls (lv_sub hl [2, 3, 4, 1, 5, 0] rfl)
def b_M_entry_75 (k2 : Int32 → Int32 → fb_S → Option (Int32 × fb_S)) (k40 : Int32 → Int32 → Int32 → Int32 → Int32 → fb_S → Option (Int32 × fb_S)) (x1 : Int32) (x2 : Int32) (x4 : Int32) (x5 : Int32) (st : fb_S) : Option (Int32 × fb_S) := b_M_entry_76 k2 k40 x1 x2 x4 x5 (0 : Int32) st
set_option maxHeartbeats 4000000 in
set_option maxRecDepth 100000 in
theorem w_M_entry_75 {p : Program} {l : Launch} {e : Env} {s : State} {m : MethodId} {args : Array Value} {below : List Frame} {meth : Method} {c : Code} {A : Nat → Prop} {dC : Nat → ClassId} {dI : Nat → Nat → Nat} {dA : Nat → ClassId} {a : Nat → Nat} (CX : fb_C p s m args meth c kc_M_entry (some .int) 6 "FileTreeModel" (dC, dI) vcl (tM dA) A zM) (o : Int32 × fb_S) (k2 : Int32 → Int32 → fb_S → Option (Int32 × fb_S)) (hk2 : ∀ (x1 : Int32) (x2 : Int32) (st : fb_S), k2 x1 x2 st = some o → fb_G p l e (headSpec kw_M_entry rm_M_entry).room s m args below meth c (dC, dI) vcl (tM dA) (wM dA a) A (some (.int o.1)) o.2 2 6 [(0, .ref (a 0)), (1, .int x1), (2, .int x2)] [] st) (k40 : Int32 → Int32 → Int32 → Int32 → Int32 → fb_S → Option (Int32 × fb_S)) (hk40 : ∀ (x1 : Int32) (x2 : Int32) (x3 : Int32) (x4 : Int32) (x5 : Int32) (st : fb_S), k40 x1 x2 x3 x4 x5 st = some o → fb_G p l e (headSpec kw_M_entry rm_M_entry).room s m args below meth c (dC, dI) vcl (tM dA) (wM dA a) A (some (.int o.1)) o.2 40 6 [(0, .ref (a 0)), (1, .int x1), (2, .int x2), (3, .int x3), (4, .int x4), (5, .int x5)] [] st) (x1 : Int32) (x2 : Int32) (x4 : Int32) (x5 : Int32) (st : fb_S) (hF : b_M_entry_75 k2 k40 x1 x2 x4 x5 st = some o) : fb_G p l e (headSpec kw_M_entry rm_M_entry).room s m args below meth c (dC, dI) vcl (tM dA) (wM dA a) A (some (.int o.1)) o.2 75 6 [(0, .ref (a 0)), (1, .int x1), (2, .int x2), (4, .int x4), (5, .int x5)] [] st := by
  intro H locs hP hD hS ls hl
  obtain ⟨hx, hb, hr, hml, hown, hts, hK, hA, hlocks, hZ⟩ := id CX
  unfold b_M_entry_75 at hF
  refine lv_iconst (v := 0) hx hb kd_M_entry_75 (by decide) ?_
  exact w_M_entry_76 CX o k2 hk2 k40 hk40 x1 x2 x4 x5 (0 : Int32) st hF H locs hP hD hS ls (lv_sub hl [0, 1, 2, 3, 4] rfl)
def b_M_entry_40 (k2 : Int32 → Int32 → fb_S → Option (Int32 × fb_S)) (k40 : Int32 → Int32 → Int32 → Int32 → Int32 → fb_S → Option (Int32 × fb_S)) (x1 : Int32) (x2 : Int32) (x3 : Int32) (x4 : Int32) (x5 : Int32) (st : fb_S) : Option (Int32 × fb_S) := (if (14 : Int32) ≤ x5 then (if x3 = (0 : Int32) then k2 x1 (x2 + (16 : Int32)) st else some (x2, st)) else (if x3 = (0 : Int32) then b_M_entry_75 k2 k40 x1 x2 x4 x5 st else (fb_ld (st 2) 524288 (x4 + x5)).bind fun v4 => (fb_ld (st 13) 14 x5).bind fun v5 => (if v4 = v5 then b_M_entry_76 k2 k40 x1 x2 x4 x5 (1 : Int32) st else b_M_entry_75 k2 k40 x1 x2 x4 x5 st)))
set_option maxHeartbeats 4000000 in
set_option maxRecDepth 100000 in
theorem w_M_entry_40 {p : Program} {l : Launch} {e : Env} {s : State} {m : MethodId} {args : Array Value} {below : List Frame} {meth : Method} {c : Code} {A : Nat → Prop} {dC : Nat → ClassId} {dI : Nat → Nat → Nat} {dA : Nat → ClassId} {a : Nat → Nat} (CX : fb_C p s m args meth c kc_M_entry (some .int) 6 "FileTreeModel" (dC, dI) vcl (tM dA) A zM) (o : Int32 × fb_S) (k2 : Int32 → Int32 → fb_S → Option (Int32 × fb_S)) (hk2 : ∀ (x1 : Int32) (x2 : Int32) (st : fb_S), k2 x1 x2 st = some o → fb_G p l e (headSpec kw_M_entry rm_M_entry).room s m args below meth c (dC, dI) vcl (tM dA) (wM dA a) A (some (.int o.1)) o.2 2 6 [(0, .ref (a 0)), (1, .int x1), (2, .int x2)] [] st) (k40 : Int32 → Int32 → Int32 → Int32 → Int32 → fb_S → Option (Int32 × fb_S)) (hk40 : ∀ (x1 : Int32) (x2 : Int32) (x3 : Int32) (x4 : Int32) (x5 : Int32) (st : fb_S), k40 x1 x2 x3 x4 x5 st = some o → fb_G p l e (headSpec kw_M_entry rm_M_entry).room s m args below meth c (dC, dI) vcl (tM dA) (wM dA a) A (some (.int o.1)) o.2 40 6 [(0, .ref (a 0)), (1, .int x1), (2, .int x2), (3, .int x3), (4, .int x4), (5, .int x5)] [] st) (x1 : Int32) (x2 : Int32) (x3 : Int32) (x4 : Int32) (x5 : Int32) (st : fb_S) (hF : b_M_entry_40 k2 k40 x1 x2 x3 x4 x5 st = some o) : fb_G p l e (headSpec kw_M_entry rm_M_entry).room s m args below meth c (dC, dI) vcl (tM dA) (wM dA a) A (some (.int o.1)) o.2 40 6 [(0, .ref (a 0)), (1, .int x1), (2, .int x2), (3, .int x3), (4, .int x4), (5, .int x5)] [] st := by
  intro H locs hP hD hS ls hl
  obtain ⟨hx, hb, hr, hml, hown, hts, hK, hA, hlocks, hZ⟩ := id CX
  unfold b_M_entry_40 at hF
  refine lv_iload hx hb kd_M_entry_40 (lv_at hl 5 rfl) ?_
  refine lv_bipush (v := 14) hx hb kd_M_entry_42 (by decide) ?_
  refine lv_icmp_ge (tgt := 83) hx hb kd_M_entry_44 (by decide) (fun c1 => ?_) (fun c1 => ?_)
  · rw [if_pos c1] at hF
    refine lv_iload_n hx hb kd_M_entry_83 rfl (lv_at hl 3 rfl) ?_
    refine lv_if_eq (tgt := 89) hx hb kd_M_entry_84 (by decide) (fun c2 => ?_) (fun c2 => ?_)
    · rw [if_pos c2] at hF
      refine lv_iinc (v := x2 + (16 : Int32)) (lv' := [(2, .int (x2 + (16 : Int32))), (0, .ref (a 0)), (1, .int x1), (3, .int x3), (4, .int x4), (5, .int x5)]) hx hb kd_M_entry_89 hl (k := 2) rfl rfl (by decide) rfl (fun ls hl => ?_)
      refine lv_goto (tgt := 2) hx hb kd_M_entry_92 (by decide) ?_
      exact hk2 x1 (x2 + (16 : Int32)) st hF H locs hP hD hS ls (lv_sub hl [1, 2, 0] rfl)
    · rw [if_neg c2] at hF
      refine lv_iload_n hx hb kd_M_entry_87 rfl (lv_at hl 2 rfl) ?_
      exact fb_ri (o := o) hx hb hr hlocks hK hP hD hS hF kd_M_entry_88
  · rw [if_neg c1] at hF
    refine lv_iload_n hx hb kd_M_entry_47 rfl (lv_at hl 3 rfl) ?_
    refine lv_if_eq (tgt := 75) hx hb kd_M_entry_48 (by decide) (fun c3 => ?_) (fun c3 => ?_)
    · rw [if_pos c3] at hF
      exact w_M_entry_75 CX o k2 hk2 k40 hk40 x1 x2 x4 x5 st hF H locs hP hD hS ls (lv_sub hl [0, 1, 2, 4, 5] rfl)
    · rw [if_neg c3] at hF
      refine lv_aload_n hx hb kd_M_entry_51 rfl (lv_at hl 0 rfl) ?_
      refine va_get (D := (dC, dI)) (ci := 5) (v := .ref (a 3)) (C := "FileTreeModel") (T := ft_M) (N := 18) hx hb hts fi_M hown hK hP 0 rfl rfl 4 (by decide) (hts _ q_473) (fun _ h9 => h9) rfl kd_M_entry_52 ?_
      refine lv_iload hx hb kd_M_entry_55 (lv_at hl 4 rfl) ?_
      refine lv_iload hx hb kd_M_entry_57 (lv_at hl 5 rfl) ?_
      refine lv_iadd hx hb kd_M_entry_59 ?_
      obtain ⟨v4, e_v4, hF⟩ := fb_ob hF
      refine fb_bald hx hb hK hP 3 1 rfl rfl e_v4 kd_M_entry_60 ?_
      refine lv_aload_n hx hb kd_M_entry_61 rfl (lv_at hl 0 rfl) ?_
      refine va_get (D := (dC, dI)) (ci := 5) (v := .ref (a 14)) (C := "FileTreeModel") (T := ft_M) (N := 18) hx hb hts fi_M hown hK hP 0 rfl rfl 17 (by decide) (hts _ q_486) (fun _ h9 => h9) rfl kd_M_entry_62 ?_
      refine lv_iload hx hb kd_M_entry_65 (lv_at hl 5 rfl) ?_
      obtain ⟨v5, e_v5, hF⟩ := fb_ob hF
      refine fb_bald hx hb hK hP 14 1 rfl rfl e_v5 kd_M_entry_67 ?_
      refine lv_icmp_ne (tgt := 75) hx hb kd_M_entry_68 (by decide) (fun c6 => ?_) (fun c6 => ?_)
      · rw [if_neg c6] at hF
        exact w_M_entry_75 CX o k2 hk2 k40 hk40 x1 x2 x4 x5 st hF H locs hP hD hS ls (lv_sub hl [0, 1, 2, 4, 5] rfl)
      · rw [if_pos c6] at hF
        refine lv_iconst (v := 1) hx hb kd_M_entry_71 (by decide) ?_
        refine lv_goto (tgt := 76) hx hb kd_M_entry_72 (by decide) ?_
        exact w_M_entry_76 CX o k2 hk2 k40 hk40 x1 x2 x4 x5 (1 : Int32) st hF H locs hP hD hS ls (lv_sub hl [0, 1, 2, 4, 5] rfl)
def l_M_entry_40 (k2 : Int32 → Int32 → fb_S → Option (Int32 × fb_S)) : Nat → Int32 → Int32 → Int32 → Int32 → Int32 → fb_S → Option (Int32 × fb_S)
  | 0 => fun _ _ _ _ _ _ => none
  | n + 1 => b_M_entry_40 k2 (l_M_entry_40 k2 n)
theorem v_M_entry_40 {p : Program} {l : Launch} {e : Env} {s : State} {m : MethodId} {args : Array Value} {below : List Frame} {meth : Method} {c : Code} {A : Nat → Prop} {dC : Nat → ClassId} {dI : Nat → Nat → Nat} {dA : Nat → ClassId} {a : Nat → Nat} (CX : fb_C p s m args meth c kc_M_entry (some .int) 6 "FileTreeModel" (dC, dI) vcl (tM dA) A zM) (o : Int32 × fb_S) (k2 : Int32 → Int32 → fb_S → Option (Int32 × fb_S)) (hk2 : ∀ (x1 : Int32) (x2 : Int32) (st : fb_S), k2 x1 x2 st = some o → fb_G p l e (headSpec kw_M_entry rm_M_entry).room s m args below meth c (dC, dI) vcl (tM dA) (wM dA a) A (some (.int o.1)) o.2 2 6 [(0, .ref (a 0)), (1, .int x1), (2, .int x2)] [] st) (n : Nat) : ∀ (x1 : Int32) (x2 : Int32) (x3 : Int32) (x4 : Int32) (x5 : Int32) (st : fb_S), l_M_entry_40 k2 n x1 x2 x3 x4 x5 st = some o → fb_G p l e (headSpec kw_M_entry rm_M_entry).room s m args below meth c (dC, dI) vcl (tM dA) (wM dA a) A (some (.int o.1)) o.2 40 6 [(0, .ref (a 0)), (1, .int x1), (2, .int x2), (3, .int x3), (4, .int x4), (5, .int x5)] [] st := by
  induction n with
  | zero => intro x1 x2 x3 x4 x5 st hF; cases hF
  | succ n ih => intro x1 x2 x3 x4 x5 st hF; exact w_M_entry_40 CX o k2 hk2 (l_M_entry_40 k2 n) ih x1 x2 x3 x4 x5 st hF
def b_M_entry_26 (k2 : Int32 → Int32 → fb_S → Option (Int32 × fb_S)) (x1 : Int32) (x2 : Int32) (y0 : Int32) (st : fb_S) : Option (Int32 × fb_S) := (f_M_place x1 x2 st).bind fun r1 => l_M_entry_40 k2 fb_n x1 x2 y0 (r1.1 + (2 : Int32)) (0 : Int32) r1.2
set_option maxHeartbeats 4000000 in
set_option maxRecDepth 100000 in
theorem w_M_entry_26 {p : Program} {l : Launch} {e : Env} {s : State} {m : MethodId} {args : Array Value} {below : List Frame} {meth : Method} {c : Code} {A : Nat → Prop} {dC : Nat → ClassId} {dI : Nat → Nat → Nat} {dA : Nat → ClassId} {a : Nat → Nat} (CX : fb_C p s m args meth c kc_M_entry (some .int) 6 "FileTreeModel" (dC, dI) vcl (tM dA) A zM) (o : Int32 × fb_S) (k2 : Int32 → Int32 → fb_S → Option (Int32 × fb_S)) (hk2 : ∀ (x1 : Int32) (x2 : Int32) (st : fb_S), k2 x1 x2 st = some o → fb_G p l e (headSpec kw_M_entry rm_M_entry).room s m args below meth c (dC, dI) vcl (tM dA) (wM dA a) A (some (.int o.1)) o.2 2 6 [(0, .ref (a 0)), (1, .int x1), (2, .int x2)] [] st) (x1 : Int32) (x2 : Int32) (y0 : Int32) (st : fb_S) (hF : b_M_entry_26 k2 x1 x2 y0 st = some o) : fb_G p l e (headSpec kw_M_entry rm_M_entry).room s m args below meth c (dC, dI) vcl (tM dA) (wM dA a) A (some (.int o.1)) o.2 26 6 [(0, .ref (a 0)), (1, .int x1), (2, .int x2)] [.int y0] st := by
  intro H locs hP hD hS ls hl
  obtain ⟨hx, hb, hr, hml, hown, hts, hK, hA, hlocks, hZ⟩ := id CX
  unfold b_M_entry_26 at hF
  refine lv_istore_n (lv' := [(3, .int y0), (0, .ref (a 0)), (1, .int x1), (2, .int x2)]) hx hb kd_M_entry_26 rfl hl (by decide) rfl (fun ls hl => ?_)
  refine lv_aload_n hx hb kd_M_entry_27 rfl (lv_at hl 1 rfl) ?_
  refine lv_iload_n hx hb kd_M_entry_28 rfl (lv_at hl 2 rfl) ?_
  refine lv_iload_n hx hb kd_M_entry_29 rfl (lv_at hl 3 rfl) ?_
  obtain ⟨r1, e_r1, hF⟩ := fb_ob hF
  refine fb_callV (As := [.int x1, .int x2]) (rest := []) ⟨hx, hb, hml, hown, hts⟩ zM_mv hZ hK hP hD hS hA (c_M_place l dC dI dA a x1 x2 st r1 e_r1) (cwV 2 hts (gd_V q_465 ko_M_place) rfl rfl rfl kh_M_place ⟨Nat.le_of_ble_eq_true rfl, Nat.le_of_ble_eq_true rfl⟩) 5 0 rfl rfl rfl rfl hl.1 rfl (Nat.le_of_ble_eq_true rfl) kd_M_entry_30 ⟨Nat.zero_le _, Nat.zero_le _⟩ (fun H locs hP hD hS => ?_)
  refine W.eq (g2 := F0 m 33 ls [.int r1.1]) rfl ?_
  refine lv_iconst (v := 2) hx hb kd_M_entry_33 (by decide) ?_
  refine lv_iadd hx hb kd_M_entry_34 ?_
  refine lv_istore (lv' := [(4, .int (r1.1 + (2 : Int32))), (3, .int y0), (0, .ref (a 0)), (1, .int x1), (2, .int x2)]) hx hb kd_M_entry_35 hl (by decide) rfl (fun ls hl => ?_)
  refine lv_iconst (v := 0) hx hb kd_M_entry_37 (by decide) ?_
  refine lv_istore (lv' := [(5, .int (0 : Int32)), (4, .int (r1.1 + (2 : Int32))), (3, .int y0), (0, .ref (a 0)), (1, .int x1), (2, .int x2)]) hx hb kd_M_entry_38 hl (by decide) rfl (fun ls hl => ?_)
  exact v_M_entry_40 CX o k2 hk2 fb_n x1 x2 y0 (r1.1 + (2 : Int32)) (0 : Int32) r1.2 hF H locs hP hD hS ls (lv_sub hl [3, 4, 5, 2, 1, 0] rfl)
def b_M_entry_2 (k2 : Int32 → Int32 → fb_S → Option (Int32 × fb_S)) (x1 : Int32) (x2 : Int32) (st : fb_S) : Option (Int32 × fb_S) := (fb_ld (st 8) 64 x1).bind fun v1 => (if v1 ≤ x2 then some ((-1 : Int32), st) else (f_M_numberAt x1 x2 st).bind fun r3 => (if r3.1 ≤ (0 : Int32) then b_M_entry_26 k2 x1 x2 (0 : Int32) r3.2 else b_M_entry_26 k2 x1 x2 (1 : Int32) r3.2))
set_option maxHeartbeats 4000000 in
set_option maxRecDepth 100000 in
theorem w_M_entry_2 {p : Program} {l : Launch} {e : Env} {s : State} {m : MethodId} {args : Array Value} {below : List Frame} {meth : Method} {c : Code} {A : Nat → Prop} {dC : Nat → ClassId} {dI : Nat → Nat → Nat} {dA : Nat → ClassId} {a : Nat → Nat} (CX : fb_C p s m args meth c kc_M_entry (some .int) 6 "FileTreeModel" (dC, dI) vcl (tM dA) A zM) (o : Int32 × fb_S) (k2 : Int32 → Int32 → fb_S → Option (Int32 × fb_S)) (hk2 : ∀ (x1 : Int32) (x2 : Int32) (st : fb_S), k2 x1 x2 st = some o → fb_G p l e (headSpec kw_M_entry rm_M_entry).room s m args below meth c (dC, dI) vcl (tM dA) (wM dA a) A (some (.int o.1)) o.2 2 6 [(0, .ref (a 0)), (1, .int x1), (2, .int x2)] [] st) (x1 : Int32) (x2 : Int32) (st : fb_S) (hF : b_M_entry_2 k2 x1 x2 st = some o) : fb_G p l e (headSpec kw_M_entry rm_M_entry).room s m args below meth c (dC, dI) vcl (tM dA) (wM dA a) A (some (.int o.1)) o.2 2 6 [(0, .ref (a 0)), (1, .int x1), (2, .int x2)] [] st := by
  intro H locs hP hD hS ls hl
  obtain ⟨hx, hb, hr, hml, hown, hts, hK, hA, hlocks, hZ⟩ := id CX
  unfold b_M_entry_2 at hF
  refine lv_iload_n hx hb kd_M_entry_2 rfl (lv_at hl 2 rfl) ?_
  refine lv_aload_n hx hb kd_M_entry_3 rfl (lv_at hl 0 rfl) ?_
  refine va_get (D := (dC, dI)) (ci := 5) (v := .ref (a 9)) (C := "FileTreeModel") (T := ft_M) (N := 18) hx hb hts fi_M hown hK hP 0 rfl rfl 10 (by decide) (hts _ q_479) (fun _ h9 => h9) rfl kd_M_entry_4 ?_
  refine lv_iload_n hx hb kd_M_entry_7 rfl (lv_at hl 1 rfl) ?_
  obtain ⟨v1, e_v1, hF⟩ := fb_ob hF
  refine fb_iald hx hb hK hP 9 0 rfl rfl e_v1 kd_M_entry_8 ?_
  refine lv_icmp_ge (tgt := 95) hx hb kd_M_entry_9 (by decide) (fun c2 => ?_) (fun c2 => ?_)
  · rw [if_pos c2] at hF
    refine lv_iconst (v := (-1)) hx hb kd_M_entry_95 (by decide) ?_
    exact fb_ri (o := o) hx hb hr hlocks hK hP hD hS hF kd_M_entry_96
  · rw [if_neg c2] at hF
    refine lv_aload_n hx hb kd_M_entry_12 rfl (lv_at hl 0 rfl) ?_
    refine lv_iload_n hx hb kd_M_entry_13 rfl (lv_at hl 1 rfl) ?_
    refine lv_iload_n hx hb kd_M_entry_14 rfl (lv_at hl 2 rfl) ?_
    obtain ⟨r3, e_r3, hF⟩ := fb_ob hF
    refine fb_callV (As := [.int x1, .int x2]) (rest := []) ⟨hx, hb, hml, hown, hts⟩ zM_mv hZ hK hP hD hS hA (c_M_numberAt l dC dI dA a x1 x2 st r3 e_r3) (cwV 2 hts (gd_V q_569 ko_M_numberAt) rfl rfl rfl kh_M_numberAt ⟨Nat.le_of_ble_eq_true rfl, Nat.le_of_ble_eq_true rfl⟩) 5 0 rfl rfl rfl rfl hl.1 rfl (Nat.le_of_ble_eq_true rfl) kd_M_entry_15 ⟨Nat.zero_le _, Nat.zero_le _⟩ (fun H locs hP hD hS => ?_)
    refine W.eq (g2 := F0 m 18 ls [.int r3.1]) rfl ?_
    refine lv_if_le (tgt := 25) hx hb kd_M_entry_18 (by decide) (fun c4 => ?_) (fun c4 => ?_)
    · rw [if_pos c4] at hF
      refine lv_iconst (v := 0) hx hb kd_M_entry_25 (by decide) ?_
      exact w_M_entry_26 CX o k2 hk2 x1 x2 (0 : Int32) r3.2 hF H locs hP hD hS ls (lv_sub hl [0, 1, 2] rfl)
    · rw [if_neg c4] at hF
      refine lv_iconst (v := 1) hx hb kd_M_entry_21 (by decide) ?_
      refine lv_goto (tgt := 26) hx hb kd_M_entry_22 (by decide) ?_
      exact w_M_entry_26 CX o k2 hk2 x1 x2 (1 : Int32) r3.2 hF H locs hP hD hS ls (lv_sub hl [0, 1, 2] rfl)
def l_M_entry_2 : Nat → Int32 → Int32 → fb_S → Option (Int32 × fb_S)
  | 0 => fun _ _ _ => none
  | n + 1 => b_M_entry_2 (l_M_entry_2 n)
theorem v_M_entry_2 {p : Program} {l : Launch} {e : Env} {s : State} {m : MethodId} {args : Array Value} {below : List Frame} {meth : Method} {c : Code} {A : Nat → Prop} {dC : Nat → ClassId} {dI : Nat → Nat → Nat} {dA : Nat → ClassId} {a : Nat → Nat} (CX : fb_C p s m args meth c kc_M_entry (some .int) 6 "FileTreeModel" (dC, dI) vcl (tM dA) A zM) (o : Int32 × fb_S) (n : Nat) : ∀ (x1 : Int32) (x2 : Int32) (st : fb_S), l_M_entry_2 n x1 x2 st = some o → fb_G p l e (headSpec kw_M_entry rm_M_entry).room s m args below meth c (dC, dI) vcl (tM dA) (wM dA a) A (some (.int o.1)) o.2 2 6 [(0, .ref (a 0)), (1, .int x1), (2, .int x2)] [] st := by
  induction n with
  | zero => intro x1 x2 st hF; cases hF
  | succ n ih => intro x1 x2 st hF; exact w_M_entry_2 CX o (l_M_entry_2 n) ih x1 x2 st hF
def f_M_entry (x1 : Int32) (st : fb_S) : Option (Int32 × fb_S) := l_M_entry_2 fb_n x1 (0 : Int32) st
set_option maxHeartbeats 4000000 in
set_option maxRecDepth 100000 in
theorem w_M_entry_0 {p : Program} {l : Launch} {e : Env} {s : State} {m : MethodId} {args : Array Value} {below : List Frame} {meth : Method} {c : Code} {A : Nat → Prop} {dC : Nat → ClassId} {dI : Nat → Nat → Nat} {dA : Nat → ClassId} {a : Nat → Nat} (CX : fb_C p s m args meth c kc_M_entry (some .int) 6 "FileTreeModel" (dC, dI) vcl (tM dA) A zM) (o : Int32 × fb_S) (x1 : Int32) (st : fb_S) (hF : f_M_entry x1 st = some o) : fb_G p l e (headSpec kw_M_entry rm_M_entry).room s m args below meth c (dC, dI) vcl (tM dA) (wM dA a) A (some (.int o.1)) o.2 0 6 [(0, .ref (a 0)), (1, .int x1)] [] st := by
  intro H locs hP hD hS ls hl
  obtain ⟨hx, hb, hr, hml, hown, hts, hK, hA, hlocks, hZ⟩ := id CX
  unfold f_M_entry at hF
  refine lv_iconst (v := 0) hx hb kd_M_entry_0 (by decide) ?_
  refine lv_istore_n (lv' := [(2, .int (0 : Int32)), (0, .ref (a 0)), (1, .int x1)]) hx hb kd_M_entry_1 rfl hl (by decide) rfl (fun ls hl => ?_)
  exact v_M_entry_2 CX o fb_n x1 (0 : Int32) st hF H locs hP hD hS ls (lv_sub hl [1, 2, 0] rfl)
theorem c_M_entry (l : Launch) (dC : Nat → ClassId) (dI : Nat → Nat → Nat) (dA : Nat → ClassId) (a : Nat → Nat) (x1 : Int32) (st : fb_S) (o : Int32 × fb_S) (h : f_M_entry x1 st = some o) : fb_M l ky_M_entry kw_M_entry rm_M_entry (dC, dI) vcl (tM dA) (wM dA a) zM [.ref (a 0), .int x1] (some (.int o.1)) st o.2 := fb_enter (by decide) rfl (Nat.le_of_ble_eq_true rfl) (fun p e s m below meth c A CX hP hD hS ls hl => w_M_entry_0 CX o x1 st h s.heap [] hP hD hS ls hl)
abbrev rm_M_step : Room := { frames := 3, cells := 0, slots := 0, locals := 70 }
def b_M_step_19 (x1 : Int32) (y0 : Int32) (st : fb_S) : Option (Int32 × fb_S) := (if (0 : Int32) ≤ y0 then (f_M_numberAt x1 y0 st).bind fun r2 => some (r2.1, r2.2) else some ((0 : Int32), st))
set_option maxHeartbeats 4000000 in
set_option maxRecDepth 100000 in
theorem w_M_step_19 {p : Program} {l : Launch} {e : Env} {s : State} {m : MethodId} {args : Array Value} {below : List Frame} {meth : Method} {c : Code} {A : Nat → Prop} {dC : Nat → ClassId} {dI : Nat → Nat → Nat} {dA : Nat → ClassId} {a : Nat → Nat} (CX : fb_C p s m args meth c kc_M_step (some .int) 3 "FileTreeModel" (dC, dI) vcl (tM dA) A zM) (o : Int32 × fb_S) (x1 : Int32) (y0 : Int32) (st : fb_S) (hF : b_M_step_19 x1 y0 st = some o) : fb_G p l e (headSpec kw_M_step rm_M_step).room s m args below meth c (dC, dI) vcl (tM dA) (wM dA a) A (some (.int o.1)) o.2 19 3 [(0, .ref (a 0)), (1, .int x1)] [.int y0] st := by
  intro H locs hP hD hS ls hl
  obtain ⟨hx, hb, hr, hml, hown, hts, hK, hA, hlocks, hZ⟩ := id CX
  unfold b_M_step_19 at hF
  refine lv_istore_n (lv' := [(2, .int y0), (0, .ref (a 0)), (1, .int x1)]) hx hb kd_M_step_19 rfl hl (by decide) rfl (fun ls hl => ?_)
  refine lv_iload_n hx hb kd_M_step_20 rfl (lv_at hl 0 rfl) ?_
  refine lv_if_ge (tgt := 28) hx hb kd_M_step_21 (by decide) (fun c1 => ?_) (fun c1 => ?_)
  · rw [if_pos c1] at hF
    refine lv_aload_n hx hb kd_M_step_28 rfl (lv_at hl 1 rfl) ?_
    refine lv_iload_n hx hb kd_M_step_29 rfl (lv_at hl 2 rfl) ?_
    refine lv_iload_n hx hb kd_M_step_30 rfl (lv_at hl 0 rfl) ?_
    obtain ⟨r2, e_r2, hF⟩ := fb_ob hF
    refine fb_callV (As := [.int x1, .int y0]) (rest := []) ⟨hx, hb, hml, hown, hts⟩ zM_mv hZ hK hP hD hS hA (c_M_numberAt l dC dI dA a x1 y0 st r2 e_r2) (cwV 2 hts (gd_V q_569 ko_M_numberAt) rfl rfl rfl kh_M_numberAt ⟨Nat.le_of_ble_eq_true rfl, Nat.le_of_ble_eq_true rfl⟩) 5 0 rfl rfl rfl rfl hl.1 rfl (Nat.le_of_ble_eq_true rfl) kd_M_step_31 ⟨Nat.zero_le _, Nat.zero_le _⟩ (fun H locs hP hD hS => ?_)
    refine W.eq (g2 := F0 m 34 ls [.int r2.1]) rfl ?_
    exact fb_ri (o := o) hx hb hr hlocks hK hP hD hS hF kd_M_step_34
  · rw [if_neg c1] at hF
    refine lv_iconst (v := 0) hx hb kd_M_step_24 (by decide) ?_
    refine lv_goto (tgt := 34) hx hb kd_M_step_25 (by decide) ?_
    exact fb_ri (o := o) hx hb hr hlocks hK hP hD hS hF kd_M_step_34
def f_M_step (x1 : Int32) (st : fb_S) : Option (Int32 × fb_S) := (fb_ld (st 4) 64 x1).bind fun v1 => (if v1 = (1 : Int32) then (f_M_entry x1 st).bind fun r3 => b_M_step_19 x1 r3.1 r3.2 else b_M_step_19 x1 (-1 : Int32) st)
set_option maxHeartbeats 4000000 in
set_option maxRecDepth 100000 in
theorem w_M_step_0 {p : Program} {l : Launch} {e : Env} {s : State} {m : MethodId} {args : Array Value} {below : List Frame} {meth : Method} {c : Code} {A : Nat → Prop} {dC : Nat → ClassId} {dI : Nat → Nat → Nat} {dA : Nat → ClassId} {a : Nat → Nat} (CX : fb_C p s m args meth c kc_M_step (some .int) 3 "FileTreeModel" (dC, dI) vcl (tM dA) A zM) (o : Int32 × fb_S) (x1 : Int32) (st : fb_S) (hF : f_M_step x1 st = some o) : fb_G p l e (headSpec kw_M_step rm_M_step).room s m args below meth c (dC, dI) vcl (tM dA) (wM dA a) A (some (.int o.1)) o.2 0 3 [(0, .ref (a 0)), (1, .int x1)] [] st := by
  intro H locs hP hD hS ls hl
  obtain ⟨hx, hb, hr, hml, hown, hts, hK, hA, hlocks, hZ⟩ := id CX
  unfold f_M_step at hF
  refine lv_aload_n hx hb kd_M_step_0 rfl (lv_at hl 0 rfl) ?_
  refine va_get (D := (dC, dI)) (ci := 5) (v := .ref (a 5)) (C := "FileTreeModel") (T := ft_M) (N := 18) hx hb hts fi_M hown hK hP 0 rfl rfl 6 (by decide) (hts _ q_475) (fun _ h9 => h9) rfl kd_M_step_1 ?_
  refine lv_iload_n hx hb kd_M_step_4 rfl (lv_at hl 1 rfl) ?_
  obtain ⟨v1, e_v1, hF⟩ := fb_ob hF
  refine fb_iald hx hb hK hP 5 0 rfl rfl e_v1 kd_M_step_5 ?_
  refine lv_iconst (v := 1) hx hb kd_M_step_6 (by decide) ?_
  refine lv_icmp_ne (tgt := 18) hx hb kd_M_step_7 (by decide) (fun c2 => ?_) (fun c2 => ?_)
  · rw [if_neg c2] at hF
    refine lv_iconst (v := (-1)) hx hb kd_M_step_18 (by decide) ?_
    exact w_M_step_19 CX o x1 (-1 : Int32) st hF H locs hP hD hS ls (lv_sub hl [0, 1] rfl)
  · rw [if_pos c2] at hF
    refine lv_aload_n hx hb kd_M_step_10 rfl (lv_at hl 0 rfl) ?_
    refine lv_iload_n hx hb kd_M_step_11 rfl (lv_at hl 1 rfl) ?_
    obtain ⟨r3, e_r3, hF⟩ := fb_ob hF
    refine fb_callV (As := [.int x1]) (rest := []) ⟨hx, hb, hml, hown, hts⟩ zM_mv hZ hK hP hD hS hA (c_M_entry l dC dI dA a x1 st r3 e_r3) (cwV 1 hts (gd_V q_565 ko_M_entry) rfl rfl rfl kh_M_entry ⟨Nat.le_of_ble_eq_true rfl, Nat.le_of_ble_eq_true rfl⟩) 5 0 rfl rfl rfl rfl hl.1 rfl (Nat.le_of_ble_eq_true rfl) kd_M_step_12 ⟨Nat.zero_le _, Nat.zero_le _⟩ (fun H locs hP hD hS => ?_)
    refine W.eq (g2 := F0 m 15 ls [.int r3.1]) rfl ?_
    refine lv_goto (tgt := 19) hx hb kd_M_step_15 (by decide) ?_
    exact w_M_step_19 CX o x1 r3.1 r3.2 hF H locs hP hD hS ls (lv_sub hl [0, 1] rfl)
theorem c_M_step (l : Launch) (dC : Nat → ClassId) (dI : Nat → Nat → Nat) (dA : Nat → ClassId) (a : Nat → Nat) (x1 : Int32) (st : fb_S) (o : Int32 × fb_S) (h : f_M_step x1 st = some o) : fb_M l ky_M_step kw_M_step rm_M_step (dC, dI) vcl (tM dA) (wM dA a) zM [.ref (a 0), .int x1] (some (.int o.1)) st o.2 := fb_enter (by decide) rfl (Nat.le_of_ble_eq_true rfl) (fun p e s m below meth c A CX hP hD hS ls hl => w_M_step_0 CX o x1 st h s.heap [] hP hD hS ls hl)
abbrev rm_M_leads : Room := { frames := 4, cells := 0, slots := 0, locals := 92 }
def b_M_leads_9 (k9 : Int32 → fb_S → Option (Int32 × fb_S)) (x4 : Int32) (st : fb_S) : Option (Int32 × fb_S) := (if x4 ≤ (0 : Int32) then some (x4, st) else (f_M_named st).bind fun r2 => (if r2.1 = (0 : Int32) then some (x4, r2.2) else (f_M_step x4 r2.2).bind fun r4 => k9 r4.1 r4.2))
set_option maxHeartbeats 4000000 in
set_option maxRecDepth 100000 in
theorem w_M_leads_9 {p : Program} {l : Launch} {e : Env} {s : State} {m : MethodId} {args : Array Value} {below : List Frame} {meth : Method} {c : Code} {A : Nat → Prop} {dC : Nat → ClassId} {dI : Nat → Nat → Nat} {dA : Nat → ClassId} {a : Nat → Nat} (CX : fb_C p s m args meth c kc_M_leads (some .int) 5 "FileTreeModel" (dC, dI) vcl (tM dA) A zM) (o : Int32 × fb_S) (k9 : Int32 → fb_S → Option (Int32 × fb_S)) (hk9 : ∀ (x4 : Int32) (st : fb_S), k9 x4 st = some o → fb_G p l e (headSpec kw_M_leads rm_M_leads).room s m args below meth c (dC, dI) vcl (tM dA) (wM dA a) A (some (.int o.1)) o.2 9 5 [(0, .ref (a 0)), (4, .int x4)] [] st) (x4 : Int32) (st : fb_S) (hF : b_M_leads_9 k9 x4 st = some o) : fb_G p l e (headSpec kw_M_leads rm_M_leads).room s m args below meth c (dC, dI) vcl (tM dA) (wM dA a) A (some (.int o.1)) o.2 9 5 [(0, .ref (a 0)), (4, .int x4)] [] st := by
  intro H locs hP hD hS ls hl
  obtain ⟨hx, hb, hr, hml, hown, hts, hK, hA, hlocks, hZ⟩ := id CX
  unfold b_M_leads_9 at hF
  refine lv_iload hx hb kd_M_leads_9 (lv_at hl 1 rfl) ?_
  refine lv_if_le (tgt := 32) hx hb kd_M_leads_11 (by decide) (fun c1 => ?_) (fun c1 => ?_)
  · rw [if_pos c1] at hF
    refine lv_iload hx hb kd_M_leads_32 (lv_at hl 1 rfl) ?_
    exact fb_ri (o := o) hx hb hr hlocks hK hP hD hS hF kd_M_leads_34
  · rw [if_neg c1] at hF
    refine lv_aload_n hx hb kd_M_leads_14 rfl (lv_at hl 0 rfl) ?_
    obtain ⟨r2, e_r2, hF⟩ := fb_ob hF
    refine fb_callV (As := []) (rest := []) ⟨hx, hb, hml, hown, hts⟩ zM_mv hZ hK hP hD hS hA (c_M_named l dC dI dA a st r2 e_r2) (cwV 0 hts (gd_V q_553 ko_M_named) rfl rfl rfl kh_M_named ⟨Nat.le_of_ble_eq_true rfl, Nat.le_of_ble_eq_true rfl⟩) 5 0 rfl rfl rfl rfl hl.1 rfl (Nat.le_of_ble_eq_true rfl) kd_M_leads_15 ⟨Nat.zero_le _, Nat.zero_le _⟩ (fun H locs hP hD hS => ?_)
    refine W.eq (g2 := F0 m 18 ls [.int r2.1]) rfl ?_
    refine lv_if_eq (tgt := 32) hx hb kd_M_leads_18 (by decide) (fun c3 => ?_) (fun c3 => ?_)
    · rw [if_pos c3] at hF
      refine lv_iload hx hb kd_M_leads_32 (lv_at hl 1 rfl) ?_
      exact fb_ri (o := o) hx hb hr hlocks hK hP hD hS hF kd_M_leads_34
    · rw [if_neg c3] at hF
      refine lv_aload_n hx hb kd_M_leads_21 rfl (lv_at hl 0 rfl) ?_
      refine lv_iload hx hb kd_M_leads_22 (lv_at hl 1 rfl) ?_
      obtain ⟨r4, e_r4, hF⟩ := fb_ob hF
      refine fb_callV (As := [.int x4]) (rest := []) ⟨hx, hb, hml, hown, hts⟩ zM_mv hZ hK hP hD hS hA (c_M_step l dC dI dA a x4 r2.2 r4 e_r4) (cwV 1 hts (gd_V q_561 ko_M_step) rfl rfl rfl kh_M_step ⟨Nat.le_of_ble_eq_true rfl, Nat.le_of_ble_eq_true rfl⟩) 5 0 rfl rfl rfl rfl hl.1 rfl (Nat.le_of_ble_eq_true rfl) kd_M_leads_24 ⟨Nat.zero_le _, Nat.zero_le _⟩ (fun H locs hP hD hS => ?_)
      refine W.eq (g2 := F0 m 27 ls [.int r4.1]) rfl ?_
      refine lv_istore (lv' := [(4, .int r4.1), (0, .ref (a 0))]) hx hb kd_M_leads_27 hl (by decide) rfl (fun ls hl => ?_)
      refine lv_goto (tgt := 9) hx hb kd_M_leads_29 (by decide) ?_
      exact hk9 r4.1 r4.2 hF H locs hP hD hS ls (lv_sub hl [1, 0] rfl)
def l_M_leads_9 : Nat → Int32 → fb_S → Option (Int32 × fb_S)
  | 0 => fun _ _ => none
  | n + 1 => b_M_leads_9 (l_M_leads_9 n)
theorem v_M_leads_9 {p : Program} {l : Launch} {e : Env} {s : State} {m : MethodId} {args : Array Value} {below : List Frame} {meth : Method} {c : Code} {A : Nat → Prop} {dC : Nat → ClassId} {dI : Nat → Nat → Nat} {dA : Nat → ClassId} {a : Nat → Nat} (CX : fb_C p s m args meth c kc_M_leads (some .int) 5 "FileTreeModel" (dC, dI) vcl (tM dA) A zM) (o : Int32 × fb_S) (n : Nat) : ∀ (x4 : Int32) (st : fb_S), l_M_leads_9 n x4 st = some o → fb_G p l e (headSpec kw_M_leads rm_M_leads).room s m args below meth c (dC, dI) vcl (tM dA) (wM dA a) A (some (.int o.1)) o.2 9 5 [(0, .ref (a 0)), (4, .int x4)] [] st := by
  induction n with
  | zero => intro x4 st hF; cases hF
  | succ n ih => intro x4 st hF; exact w_M_leads_9 CX o (l_M_leads_9 n) ih x4 st hF
def f_M_leads (x1 : Int32) (x2 : Int32) (x3 : Int32) (st : fb_S) : Option (Int32 × fb_S) := (f_M_begin x1 x2 x3 st).bind fun r1 => l_M_leads_9 fb_n r1.1 r1.2
set_option maxHeartbeats 4000000 in
set_option maxRecDepth 100000 in
theorem w_M_leads_0 {p : Program} {l : Launch} {e : Env} {s : State} {m : MethodId} {args : Array Value} {below : List Frame} {meth : Method} {c : Code} {A : Nat → Prop} {dC : Nat → ClassId} {dI : Nat → Nat → Nat} {dA : Nat → ClassId} {a : Nat → Nat} (CX : fb_C p s m args meth c kc_M_leads (some .int) 5 "FileTreeModel" (dC, dI) vcl (tM dA) A zM) (o : Int32 × fb_S) (x1 : Int32) (x2 : Int32) (x3 : Int32) (st : fb_S) (hF : f_M_leads x1 x2 x3 st = some o) : fb_G p l e (headSpec kw_M_leads rm_M_leads).room s m args below meth c (dC, dI) vcl (tM dA) (wM dA a) A (some (.int o.1)) o.2 0 5 [(0, .ref (a 0)), (1, .int x1), (2, .int x2), (3, .int x3)] [] st := by
  intro H locs hP hD hS ls hl
  obtain ⟨hx, hb, hr, hml, hown, hts, hK, hA, hlocks, hZ⟩ := id CX
  unfold f_M_leads at hF
  refine lv_aload_n hx hb kd_M_leads_0 rfl (lv_at hl 0 rfl) ?_
  refine lv_iload_n hx hb kd_M_leads_1 rfl (lv_at hl 1 rfl) ?_
  refine lv_iload_n hx hb kd_M_leads_2 rfl (lv_at hl 2 rfl) ?_
  refine lv_iload_n hx hb kd_M_leads_3 rfl (lv_at hl 3 rfl) ?_
  obtain ⟨r1, e_r1, hF⟩ := fb_ob hF
  refine fb_callV (As := [.int x1, .int x2, .int x3]) (rest := []) ⟨hx, hb, hml, hown, hts⟩ zM_mv hZ hK hP hD hS hA (c_M_begin l dC dI dA a x1 x2 x3 st r1 e_r1) (cwV 3 hts (gd_V q_542 ko_M_begin) rfl rfl rfl kh_M_begin ⟨Nat.le_of_ble_eq_true rfl, Nat.le_of_ble_eq_true rfl⟩) 5 0 rfl rfl rfl rfl hl.1 rfl (Nat.le_of_ble_eq_true rfl) kd_M_leads_4 ⟨Nat.zero_le _, Nat.zero_le _⟩ (fun H locs hP hD hS => ?_)
  refine W.eq (g2 := F0 m 7 ls [.int r1.1]) rfl ?_
  refine lv_istore (lv' := [(4, .int r1.1), (0, .ref (a 0)), (1, .int x1), (2, .int x2), (3, .int x3)]) hx hb kd_M_leads_7 hl (by decide) rfl (fun ls hl => ?_)
  exact v_M_leads_9 CX o fb_n r1.1 r1.2 hF H locs hP hD hS ls (lv_sub hl [1, 0] rfl)
theorem c_M_leads (l : Launch) (dC : Nat → ClassId) (dI : Nat → Nat → Nat) (dA : Nat → ClassId) (a : Nat → Nat) (x1 : Int32) (x2 : Int32) (x3 : Int32) (st : fb_S) (o : Int32 × fb_S) (h : f_M_leads x1 x2 x3 st = some o) : fb_M l ky_M_leads kw_M_leads rm_M_leads (dC, dI) vcl (tM dA) (wM dA a) zM [.ref (a 0), .int x1, .int x2, .int x3] (some (.int o.1)) st o.2 := fb_enter (by decide) rfl (Nat.le_of_ble_eq_true rfl) (fun p e s m below meth c A CX hP hD hS ls hl => w_M_leads_0 CX o x1 x2 x3 st h s.heap [] hP hD hS ls hl)
abbrev rm_M_find : Room := { frames := 5, cells := 0, slots := 0, locals := 116 }
def f_M_find (x1 : Int32) (st : fb_S) : Option (Int32 × fb_S) := (fb_pf st 14 (0 : Int32)).bind fun s1 => (f_M_taken s1).bind fun r2 => (f_M_leads x1 (0 : Int32) r2.1 r2.2).bind fun r3 => (if r3.1 ≤ (0 : Int32) then some ((-1 : Int32), r3.2) else some (r3.1, r3.2))
set_option maxHeartbeats 4000000 in
set_option maxRecDepth 100000 in
theorem w_M_find_0 {p : Program} {l : Launch} {e : Env} {s : State} {m : MethodId} {args : Array Value} {below : List Frame} {meth : Method} {c : Code} {A : Nat → Prop} {dC : Nat → ClassId} {dI : Nat → Nat → Nat} {dA : Nat → ClassId} {a : Nat → Nat} (CX : fb_C p s m args meth c kc_M_find (some .int) 3 "FileTreeModel" (dC, dI) vcl (tM dA) A zM) (o : Int32 × fb_S) (x1 : Int32) (st : fb_S) (hF : f_M_find x1 st = some o) : fb_G p l e (headSpec kw_M_find rm_M_find).room s m args below meth c (dC, dI) vcl (tM dA) (wM dA a) A (some (.int o.1)) o.2 0 3 [(0, .ref (a 0)), (1, .int x1)] [] st := by
  intro H locs hP hD hS ls hl
  obtain ⟨hx, hb, hr, hml, hown, hts, hK, hA, hlocks, hZ⟩ := id CX
  unfold f_M_find at hF
  refine lv_aload_n hx hb kd_M_find_0 rfl (lv_at hl 0 rfl) ?_
  refine lv_iconst (v := 0) hx hb kd_M_find_1 (by decide) ?_
  obtain ⟨s1, e_s1, hF⟩ := fb_ob hF
  refine va_put (D := (dC, dI)) (ci := 5) (v := .int (0 : Int32)) (ty := .int) (C := "FileTreeModel") (T := ft_M) (N := 18) hx hb hts fi_M fy_M fo_M fn_M hown hK hP hD hS 0 rfl rfl 0 (by decide) (hts _ q_469) (fun _ h9 => h9) rfl (by decide +kernel) rfl rfl (Nat.le_of_ble_eq_true rfl) kd_M_find_2 (fun H locs hP hD hS => ?_)
  cases e_s1
  obtain ⟨s1, e_s1⟩ : ∃ z : fb_S, z = va_up st 14 (upd (st 14) 0 (0 : Int32)) := ⟨_, rfl⟩
  rw [← e_s1] at hF
  have hP : va_P (dC, dI) vcl ((wM dA a) s1) H := by rw [e_s1]; exact hP
  have hD : va_D A ((wM dA a) s1) := by rw [e_s1]; exact hD
  refine lv_aload_n hx hb kd_M_find_5 rfl (lv_at hl 0 rfl) ?_
  refine lv_iload_n hx hb kd_M_find_6 rfl (lv_at hl 1 rfl) ?_
  refine lv_iconst (v := 0) hx hb kd_M_find_7 (by decide) ?_
  refine lv_aload_n hx hb kd_M_find_8 rfl (lv_at hl 0 rfl) ?_
  obtain ⟨r2, e_r2, hF⟩ := fb_ob hF
  refine fb_callV (As := []) (rest := [.int (0 : Int32), .int x1, .ref (a 0)]) ⟨hx, hb, hml, hown, hts⟩ zM_mv hZ hK hP hD hS hA (c_M_taken l dC dI dA a s1 r2 e_r2) (cwV 0 hts (gd_V q_534 ko_M_taken) rfl rfl rfl kh_M_taken ⟨Nat.le_of_ble_eq_true rfl, Nat.le_of_ble_eq_true rfl⟩) 5 0 rfl rfl rfl rfl hl.1 rfl (Nat.le_of_ble_eq_true rfl) kd_M_find_9 ⟨Nat.zero_le _, Nat.zero_le _⟩ (fun H locs hP hD hS => ?_)
  refine W.eq (g2 := F0 m 12 ls [.int r2.1, .int (0 : Int32), .int x1, .ref (a 0)]) rfl ?_
  obtain ⟨r3, e_r3, hF⟩ := fb_ob hF
  refine fb_callV (As := [.int x1, .int (0 : Int32), .int r2.1]) (rest := []) ⟨hx, hb, hml, hown, hts⟩ zM_mv hZ hK hP hD hS hA (c_M_leads l dC dI dA a x1 (0 : Int32) r2.1 r2.2 r3 e_r3) (cwV 3 hts (gd_V q_538 ko_M_leads) rfl rfl rfl kh_M_leads ⟨Nat.le_of_ble_eq_true rfl, Nat.le_of_ble_eq_true rfl⟩) 5 0 rfl rfl rfl rfl hl.1 rfl (Nat.le_of_ble_eq_true rfl) kd_M_find_12 ⟨Nat.zero_le _, Nat.zero_le _⟩ (fun H locs hP hD hS => ?_)
  refine W.eq (g2 := F0 m 15 ls [.int r3.1]) rfl ?_
  refine lv_istore_n (lv' := [(2, .int r3.1), (0, .ref (a 0)), (1, .int x1)]) hx hb kd_M_find_15 rfl hl (by decide) rfl (fun ls hl => ?_)
  refine lv_iload_n hx hb kd_M_find_16 rfl (lv_at hl 0 rfl) ?_
  refine lv_if_le (tgt := 24) hx hb kd_M_find_17 (by decide) (fun c4 => ?_) (fun c4 => ?_)
  · rw [if_pos c4] at hF
    refine lv_iconst (v := (-1)) hx hb kd_M_find_24 (by decide) ?_
    exact fb_ri (o := o) hx hb hr hlocks hK hP hD hS hF kd_M_find_25
  · rw [if_neg c4] at hF
    refine lv_iload_n hx hb kd_M_find_20 rfl (lv_at hl 0 rfl) ?_
    refine lv_goto (tgt := 25) hx hb kd_M_find_21 (by decide) ?_
    exact fb_ri (o := o) hx hb hr hlocks hK hP hD hS hF kd_M_find_25
theorem c_M_find (l : Launch) (dC : Nat → ClassId) (dI : Nat → Nat → Nat) (dA : Nat → ClassId) (a : Nat → Nat) (x1 : Int32) (st : fb_S) (o : Int32 × fb_S) (h : f_M_find x1 st = some o) : fb_M l ky_M_find kw_M_find rm_M_find (dC, dI) vcl (tM dA) (wM dA a) zM [.ref (a 0), .int x1] (some (.int o.1)) st o.2 := fb_enter (by decide) rfl (Nat.le_of_ble_eq_true rfl) (fun p e s m below meth c A CX hP hD hS ls hl => w_M_find_0 CX o x1 st h s.heap [] hP hD hS ls hl)
