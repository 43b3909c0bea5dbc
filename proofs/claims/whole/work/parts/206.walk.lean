abbrev rm_M_hold : Room := { frames := 2, cells := 0, slots := 0, locals := 41 }
def f_M_hold (x1 : Int32) (st : fb_S) : Option (Int32 × fb_S) := (fb_pf st 14 (0 : Int32)).bind fun s1 => (f_M_there x1 s1).bind fun r2 => (if r2.1 = (0 : Int32) then fb_rz (0 : Int32) r2.2 else (fb_ld (r2.2 9) 64 x1).bind fun v4 => (fb_st r2.2 9 64 x1 (v4 + (1 : Int32))).bind fun s5 => fb_rz (1 : Int32) s5)
set_option maxHeartbeats 4000000 in
set_option maxRecDepth 100000 in
theorem w_M_hold_0 {p : Program} {l : Launch} {e : Env} {s : State} {m : MethodId} {args : Array Value} {below : List Frame} {meth : Method} {c : Code} {A : Nat → Prop} {dC : Nat → ClassId} {dI : Nat → Nat → Nat} {dA : Nat → ClassId} {a : Nat → Nat} (CX : fb_C p s m args meth c kc_M_hold (some .boolean) 2 "FileTreeModel" (dC, dI) vcl (tM dA) A zM) (o : Int32 × fb_S) (x1 : Int32) (st : fb_S) (hF : f_M_hold x1 st = some o) : fb_G p l e (headSpec kw_M_hold rm_M_hold).room s m args below meth c (dC, dI) vcl (tM dA) (wM dA a) A (some (.int o.1)) o.2 0 2 [(0, .ref (a 0)), (1, .int x1)] [] st := by
  intro H locs hP hD hS ls hl
  obtain ⟨hx, hb, hr, hml, hown, hts, hK, hA, hlocks, hZ⟩ := id CX
  unfold f_M_hold at hF
  refine lv_aload_n hx hb kd_M_hold_0 rfl (lv_at hl 0 rfl) ?_
  refine lv_iconst (v := 0) hx hb kd_M_hold_1 (by decide) ?_
  obtain ⟨s1, e_s1, hF⟩ := fb_ob hF
  refine va_put (D := (dC, dI)) (ci := 5) (v := .int (0 : Int32)) (ty := .int) (C := "FileTreeModel") (T := ft_M) (N := 18) hx hb hts fi_M fy_M fo_M fn_M hown hK hP hD hS 0 rfl rfl 0 (by decide) (hts _ q_469) (fun _ h9 => h9) rfl (by decide +kernel) rfl rfl (Nat.le_of_ble_eq_true rfl) kd_M_hold_2 (fun H locs hP hD hS => ?_)
  cases e_s1
  obtain ⟨s1, e_s1⟩ : ∃ z : fb_S, z = va_up st 14 (upd (st 14) 0 (0 : Int32)) := ⟨_, rfl⟩
  rw [← e_s1] at hF
  have hP : va_P (dC, dI) vcl ((wM dA a) s1) H := by rw [e_s1]; exact hP
  have hD : va_D A ((wM dA a) s1) := by rw [e_s1]; exact hD
  refine lv_aload_n hx hb kd_M_hold_5 rfl (lv_at hl 0 rfl) ?_
  refine lv_iload_n hx hb kd_M_hold_6 rfl (lv_at hl 1 rfl) ?_
  obtain ⟨r2, e_r2, hF⟩ := fb_ob hF
  refine fb_callV (As := [.int x1]) (rest := []) ⟨hx, hb, hml, hown, hts⟩ zM_mv hZ hK hP hD hS hA (c_M_there l dC dI dA a x1 s1 r2 e_r2) (cwV 1 hts (gd_V q_546 ko_M_there) rfl rfl rfl kh_M_there ⟨Nat.le_of_ble_eq_true rfl, Nat.le_of_ble_eq_true rfl⟩) 5 0 rfl rfl rfl rfl hl.1 rfl (Nat.le_of_ble_eq_true rfl) kd_M_hold_7 ⟨Nat.zero_le _, Nat.zero_le _⟩ (fun H locs hP hD hS => ?_)
  refine W.eq (g2 := F0 m 10 ls [.int r2.1]) rfl ?_
  refine lv_if_ne (tgt := 15) hx hb kd_M_hold_10 (by decide) (fun c3 => ?_) (fun c3 => ?_)
  · rw [if_neg c3] at hF
    refine lv_aload_n hx hb kd_M_hold_15 rfl (lv_at hl 0 rfl) ?_
    refine va_get (D := (dC, dI)) (ci := 5) (v := .ref (a 10)) (C := "FileTreeModel") (T := ft_M) (N := 18) hx hb hts fi_M hown hK hP 0 rfl rfl 11 (by decide) (hts _ q_480) (fun _ h9 => h9) rfl kd_M_hold_16 ?_
    refine lv_iload_n hx hb kd_M_hold_19 rfl (lv_at hl 1 rfl) ?_
    refine lv_dup2_11 hx hb kd_M_hold_20 rfl rfl ?_
    obtain ⟨v4, e_v4, hF⟩ := fb_ob hF
    refine fb_iald hx hb hK hP 10 0 rfl rfl e_v4 kd_M_hold_21 ?_
    refine lv_iconst (v := 1) hx hb kd_M_hold_22 (by decide) ?_
    refine lv_iadd hx hb kd_M_hold_23 ?_
    obtain ⟨s5, e_s5, hF⟩ := fb_ob hF
    refine fb_iast (wx := (wM dA a)) (k := 9) hx hb hK hP hD hS 10 0 rfl rfl e_s5 (fun _ => rfl) kd_M_hold_24 (fun H locs hP hD hS => ?_)
    refine lv_iconst (v := 1) hx hb kd_M_hold_25 (by decide) ?_
    exact fb_rb (o := o) hx hb hr hlocks hK hP hD hS hF kd_M_hold_26
  · rw [if_pos c3] at hF
    refine lv_iconst (v := 0) hx hb kd_M_hold_13 (by decide) ?_
    exact fb_rb (o := o) hx hb hr hlocks hK hP hD hS hF kd_M_hold_14
theorem c_M_hold (l : Launch) (dC : Nat → ClassId) (dI : Nat → Nat → Nat) (dA : Nat → ClassId) (a : Nat → Nat) (x1 : Int32) (st : fb_S) (o : Int32 × fb_S) (h : f_M_hold x1 st = some o) : fb_M l ky_M_hold kw_M_hold rm_M_hold (dC, dI) vcl (tM dA) (wM dA a) zM [.ref (a 0), .int x1] (some (.int o.1)) st o.2 := fb_enter (by decide) rfl (Nat.le_of_ble_eq_true rfl) (fun p e s m below meth c A CX hP hD hS ls hl => w_M_hold_0 CX o x1 st h s.heap [] hP hD hS ls hl)
abbrev rm_M_leave : Room := { frames := 2, cells := 0, slots := 0, locals := 43 }
def f_M_leave (x1 : Int32) (st : fb_S) : Option (Int32 × fb_S) := (fb_pf st 14 (0 : Int32)).bind fun s1 => (f_M_there x1 s1).bind fun r2 => (if r2.1 = (0 : Int32) then fb_rz (0 : Int32) r2.2 else (fb_ld (r2.2 9) 64 x1).bind fun v4 => (if v4 = (0 : Int32) then fb_rz (0 : Int32) r2.2 else (fb_ld (r2.2 9) 64 x1).bind fun v6 => (fb_st r2.2 9 64 x1 (v6 - (1 : Int32))).bind fun s7 => (f_M_ends x1 s7).bind fun r8 => fb_rz (1 : Int32) r8.2))
set_option maxHeartbeats 4000000 in
set_option maxRecDepth 100000 in
theorem w_M_leave_0 {p : Program} {l : Launch} {e : Env} {s : State} {m : MethodId} {args : Array Value} {below : List Frame} {meth : Method} {c : Code} {A : Nat → Prop} {dC : Nat → ClassId} {dI : Nat → Nat → Nat} {dA : Nat → ClassId} {a : Nat → Nat} (CX : fb_C p s m args meth c kc_M_leave (some .boolean) 3 "FileTreeModel" (dC, dI) vcl (tM dA) A zM) (o : Int32 × fb_S) (x1 : Int32) (st : fb_S) (hF : f_M_leave x1 st = some o) : fb_G p l e (headSpec kw_M_leave rm_M_leave).room s m args below meth c (dC, dI) vcl (tM dA) (wM dA a) A (some (.int o.1)) o.2 0 3 [(0, .ref (a 0)), (1, .int x1)] [] st := by
  intro H locs hP hD hS ls hl
  obtain ⟨hx, hb, hr, hml, hown, hts, hK, hA, hlocks, hZ⟩ := id CX
  unfold f_M_leave at hF
  refine lv_aload_n hx hb kd_M_leave_0 rfl (lv_at hl 0 rfl) ?_
  refine lv_iconst (v := 0) hx hb kd_M_leave_1 (by decide) ?_
  obtain ⟨s1, e_s1, hF⟩ := fb_ob hF
  refine va_put (D := (dC, dI)) (ci := 5) (v := .int (0 : Int32)) (ty := .int) (C := "FileTreeModel") (T := ft_M) (N := 18) hx hb hts fi_M fy_M fo_M fn_M hown hK hP hD hS 0 rfl rfl 0 (by decide) (hts _ q_469) (fun _ h9 => h9) rfl (by decide +kernel) rfl rfl (Nat.le_of_ble_eq_true rfl) kd_M_leave_2 (fun H locs hP hD hS => ?_)
  cases e_s1
  obtain ⟨s1, e_s1⟩ : ∃ z : fb_S, z = va_up st 14 (upd (st 14) 0 (0 : Int32)) := ⟨_, rfl⟩
  rw [← e_s1] at hF
  have hP : va_P (dC, dI) vcl ((wM dA a) s1) H := by rw [e_s1]; exact hP
  have hD : va_D A ((wM dA a) s1) := by rw [e_s1]; exact hD
  refine lv_aload_n hx hb kd_M_leave_5 rfl (lv_at hl 0 rfl) ?_
  refine lv_iload_n hx hb kd_M_leave_6 rfl (lv_at hl 1 rfl) ?_
  obtain ⟨r2, e_r2, hF⟩ := fb_ob hF
  refine fb_callV (As := [.int x1]) (rest := []) ⟨hx, hb, hml, hown, hts⟩ zM_mv hZ hK hP hD hS hA (c_M_there l dC dI dA a x1 s1 r2 e_r2) (cwV 1 hts (gd_V q_546 ko_M_there) rfl rfl rfl kh_M_there ⟨Nat.le_of_ble_eq_true rfl, Nat.le_of_ble_eq_true rfl⟩) 5 0 rfl rfl rfl rfl hl.1 rfl (Nat.le_of_ble_eq_true rfl) kd_M_leave_7 ⟨Nat.zero_le _, Nat.zero_le _⟩ (fun H locs hP hD hS => ?_)
  refine W.eq (g2 := F0 m 10 ls [.int r2.1]) rfl ?_
  refine lv_if_eq (tgt := 22) hx hb kd_M_leave_10 (by decide) (fun c3 => ?_) (fun c3 => ?_)
  · rw [if_pos c3] at hF
    refine lv_iconst (v := 0) hx hb kd_M_leave_22 (by decide) ?_
    exact fb_rb (o := o) hx hb hr hlocks hK hP hD hS hF kd_M_leave_23
  · rw [if_neg c3] at hF
    refine lv_aload_n hx hb kd_M_leave_13 rfl (lv_at hl 0 rfl) ?_
    refine va_get (D := (dC, dI)) (ci := 5) (v := .ref (a 10)) (C := "FileTreeModel") (T := ft_M) (N := 18) hx hb hts fi_M hown hK hP 0 rfl rfl 11 (by decide) (hts _ q_480) (fun _ h9 => h9) rfl kd_M_leave_14 ?_
    refine lv_iload_n hx hb kd_M_leave_17 rfl (lv_at hl 1 rfl) ?_
    obtain ⟨v4, e_v4, hF⟩ := fb_ob hF
    refine fb_iald hx hb hK hP 10 0 rfl rfl e_v4 kd_M_leave_18 ?_
    refine lv_if_ne (tgt := 24) hx hb kd_M_leave_19 (by decide) (fun c5 => ?_) (fun c5 => ?_)
    · rw [if_neg c5] at hF
      refine lv_aload_n hx hb kd_M_leave_24 rfl (lv_at hl 0 rfl) ?_
      refine va_get (D := (dC, dI)) (ci := 5) (v := .ref (a 10)) (C := "FileTreeModel") (T := ft_M) (N := 18) hx hb hts fi_M hown hK hP 0 rfl rfl 11 (by decide) (hts _ q_480) (fun _ h9 => h9) rfl kd_M_leave_25 ?_
      refine lv_iload_n hx hb kd_M_leave_28 rfl (lv_at hl 1 rfl) ?_
      refine lv_dup2_11 hx hb kd_M_leave_29 rfl rfl ?_
      obtain ⟨v6, e_v6, hF⟩ := fb_ob hF
      refine fb_iald hx hb hK hP 10 0 rfl rfl e_v6 kd_M_leave_30 ?_
      refine lv_iconst (v := 1) hx hb kd_M_leave_31 (by decide) ?_
      refine lv_isub hx hb kd_M_leave_32 ?_
      obtain ⟨s7, e_s7, hF⟩ := fb_ob hF
      refine fb_iast (wx := (wM dA a)) (k := 9) hx hb hK hP hD hS 10 0 rfl rfl e_s7 (fun _ => rfl) kd_M_leave_33 (fun H locs hP hD hS => ?_)
      refine lv_aload_n hx hb kd_M_leave_34 rfl (lv_at hl 0 rfl) ?_
      refine lv_iload_n hx hb kd_M_leave_35 rfl (lv_at hl 1 rfl) ?_
      obtain ⟨r8, e_r8, hF⟩ := fb_ob hF
      refine fb_callV (As := [.int x1]) (rest := []) ⟨hx, hb, hml, hown, hts⟩ zM_mv hZ hK hP hD hS hA (c_M_ends l dC dI dA a x1 s7 r8 e_r8) (cwV 1 hts (gd_V q_627 ko_M_ends) rfl rfl rfl kh_M_ends ⟨Nat.le_of_ble_eq_true rfl, Nat.le_of_ble_eq_true rfl⟩) 5 0 rfl rfl rfl rfl hl.1 rfl (Nat.le_of_ble_eq_true rfl) kd_M_leave_36 ⟨Nat.zero_le _, Nat.zero_le _⟩ (fun H locs hP hD hS => ?_)
      refine W.eq (g2 := F0 m 39 ls [.int r8.1]) rfl ?_
      refine lv_istore_n (lv' := [(2, .int r8.1), (0, .ref (a 0)), (1, .int x1)]) hx hb kd_M_leave_39 rfl hl (by decide) rfl (fun ls hl => ?_)
      refine lv_iconst (v := 1) hx hb kd_M_leave_40 (by decide) ?_
      exact fb_rb (o := o) hx hb hr hlocks hK hP hD hS hF kd_M_leave_41
    · rw [if_pos c5] at hF
      refine lv_iconst (v := 0) hx hb kd_M_leave_22 (by decide) ?_
      exact fb_rb (o := o) hx hb hr hlocks hK hP hD hS hF kd_M_leave_23
theorem c_M_leave (l : Launch) (dC : Nat → ClassId) (dI : Nat → Nat → Nat) (dA : Nat → ClassId) (a : Nat → Nat) (x1 : Int32) (st : fb_S) (o : Int32 × fb_S) (h : f_M_leave x1 st = some o) : fb_M l ky_M_leave kw_M_leave rm_M_leave (dC, dI) vcl (tM dA) (wM dA a) zM [.ref (a 0), .int x1] (some (.int o.1)) st o.2 := fb_enter (by decide) rfl (Nat.le_of_ble_eq_true rfl) (fun p e s m below meth c A CX hP hD hS ls hl => w_M_leave_0 CX o x1 st h s.heap [] hP hD hS ls hl)
abbrev rm_M_read : Room := { frames := 2, cells := 0, slots := 0, locals := 41 }
def b_M_read_43 (k43 : Int32 → Int32 → Int32 → Int32 → fb_S → Option (Int32 × fb_S)) (x1 : Int32) (x2 : Int32) (x3 : Int32) (x4 : Int32) (st : fb_S) : Option (Int32 × fb_S) := (if x3 ≤ x4 then some (x4, st) else (fb_ld (st 8) 64 x1).bind fun v2 => (if (v2 - x4) ≤ x2 then some (x4, st) else (f_M_place x1 (x2 + x4) st).bind fun r4 => (fb_ld (r4.2 2) 524288 r4.1).bind fun v5 => (fb_st r4.2 1 3072 x4 (fb_b v5)).bind fun s6 => k43 x1 x2 x3 (x4 + (1 : Int32)) s6))
set_option maxHeartbeats 4000000 in
set_option maxRecDepth 100000 in
theorem w_M_read_43 {p : Program} {l : Launch} {e : Env} {s : State} {m : MethodId} {args : Array Value} {below : List Frame} {meth : Method} {c : Code} {A : Nat → Prop} {dC : Nat → ClassId} {dI : Nat → Nat → Nat} {dA : Nat → ClassId} {a : Nat → Nat} (CX : fb_C p s m args meth c kc_M_read (some .int) 5 "FileTreeModel" (dC, dI) vcl (tM dA) A zM) (o : Int32 × fb_S) (k43 : Int32 → Int32 → Int32 → Int32 → fb_S → Option (Int32 × fb_S)) (hk43 : ∀ (x1 : Int32) (x2 : Int32) (x3 : Int32) (x4 : Int32) (st : fb_S), k43 x1 x2 x3 x4 st = some o → fb_G p l e (headSpec kw_M_read rm_M_read).room s m args below meth c (dC, dI) vcl (tM dA) (wM dA a) A (some (.int o.1)) o.2 43 5 [(0, .ref (a 0)), (1, .int x1), (2, .int x2), (3, .int x3), (4, .int x4)] [] st) (x1 : Int32) (x2 : Int32) (x3 : Int32) (x4 : Int32) (st : fb_S) (hF : b_M_read_43 k43 x1 x2 x3 x4 st = some o) : fb_G p l e (headSpec kw_M_read rm_M_read).room s m args below meth c (dC, dI) vcl (tM dA) (wM dA a) A (some (.int o.1)) o.2 43 5 [(0, .ref (a 0)), (1, .int x1), (2, .int x2), (3, .int x3), (4, .int x4)] [] st := by
  intro H locs hP hD hS ls hl
  obtain ⟨hx, hb, hr, hml, hown, hts, hK, hA, hlocks, hZ⟩ := id CX
  unfold b_M_read_43 at hF
  refine lv_iload hx hb kd_M_read_43 (lv_at hl 4 rfl) ?_
  refine lv_iload_n hx hb kd_M_read_45 rfl (lv_at hl 3 rfl) ?_
  refine lv_icmp_ge (tgt := 89) hx hb kd_M_read_46 (by decide) (fun c1 => ?_) (fun c1 => ?_)
  · rw [if_pos c1] at hF
    refine lv_iload hx hb kd_M_read_89 (lv_at hl 4 rfl) ?_
    exact fb_ri (o := o) hx hb hr hlocks hK hP hD hS hF kd_M_read_91
  · rw [if_neg c1] at hF
    refine lv_iload_n hx hb kd_M_read_49 rfl (lv_at hl 2 rfl) ?_
    refine lv_aload_n hx hb kd_M_read_50 rfl (lv_at hl 0 rfl) ?_
    refine va_get (D := (dC, dI)) (ci := 5) (v := .ref (a 9)) (C := "FileTreeModel") (T := ft_M) (N := 18) hx hb hts fi_M hown hK hP 0 rfl rfl 10 (by decide) (hts _ q_479) (fun _ h9 => h9) rfl kd_M_read_51 ?_
    refine lv_iload_n hx hb kd_M_read_54 rfl (lv_at hl 1 rfl) ?_
    obtain ⟨v2, e_v2, hF⟩ := fb_ob hF
    refine fb_iald hx hb hK hP 9 0 rfl rfl e_v2 kd_M_read_55 ?_
    refine lv_iload hx hb kd_M_read_56 (lv_at hl 4 rfl) ?_
    refine lv_isub hx hb kd_M_read_58 ?_
    refine lv_icmp_ge (tgt := 89) hx hb kd_M_read_59 (by decide) (fun c3 => ?_) (fun c3 => ?_)
    · rw [if_pos c3] at hF
      refine lv_iload hx hb kd_M_read_89 (lv_at hl 4 rfl) ?_
      exact fb_ri (o := o) hx hb hr hlocks hK hP hD hS hF kd_M_read_91
    · rw [if_neg c3] at hF
      refine lv_aload_n hx hb kd_M_read_62 rfl (lv_at hl 0 rfl) ?_
      refine va_get (D := (dC, dI)) (ci := 5) (v := .ref (a 2)) (C := "FileTreeModel") (T := ft_M) (N := 18) hx hb hts fi_M hown hK hP 0 rfl rfl 3 (by decide) (hts _ q_472) (fun _ h9 => h9) rfl kd_M_read_63 ?_
      refine lv_iload hx hb kd_M_read_66 (lv_at hl 4 rfl) ?_
      refine lv_aload_n hx hb kd_M_read_68 rfl (lv_at hl 0 rfl) ?_
      refine va_get (D := (dC, dI)) (ci := 5) (v := .ref (a 3)) (C := "FileTreeModel") (T := ft_M) (N := 18) hx hb hts fi_M hown hK hP 0 rfl rfl 4 (by decide) (hts _ q_473) (fun _ h9 => h9) rfl kd_M_read_69 ?_
      refine lv_aload_n hx hb kd_M_read_72 rfl (lv_at hl 0 rfl) ?_
      refine lv_iload_n hx hb kd_M_read_73 rfl (lv_at hl 1 rfl) ?_
      refine lv_iload_n hx hb kd_M_read_74 rfl (lv_at hl 2 rfl) ?_
      refine lv_iload hx hb kd_M_read_75 (lv_at hl 4 rfl) ?_
      refine lv_iadd hx hb kd_M_read_77 ?_
      obtain ⟨r4, e_r4, hF⟩ := fb_ob hF
      refine fb_callV (As := [.int x1, .int (x2 + x4)]) (rest := [.ref (a 3), .int x4, .ref (a 2)]) ⟨hx, hb, hml, hown, hts⟩ zM_mv hZ hK hP hD hS hA (c_M_place l dC dI dA a x1 (x2 + x4) st r4 e_r4) (cwV 2 hts (gd_V q_465 ko_M_place) rfl rfl rfl kh_M_place ⟨Nat.le_of_ble_eq_true rfl, Nat.le_of_ble_eq_true rfl⟩) 5 0 rfl rfl rfl rfl hl.1 rfl (Nat.le_of_ble_eq_true rfl) kd_M_read_78 ⟨Nat.zero_le _, Nat.zero_le _⟩ (fun H locs hP hD hS => ?_)
      refine W.eq (g2 := F0 m 81 ls [.int r4.1, .ref (a 3), .int x4, .ref (a 2)]) rfl ?_
      obtain ⟨v5, e_v5, hF⟩ := fb_ob hF
      refine fb_bald hx hb hK hP 3 1 rfl rfl e_v5 kd_M_read_81 ?_
      obtain ⟨s6, e_s6, hF⟩ := fb_ob hF
      refine fb_bast (wx := (wM dA a)) (k := 1) hx hb hK hP hD hS 2 1 rfl rfl e_s6 (fun _ => rfl) kd_M_read_82 (fun H locs hP hD hS => ?_)
      refine lv_iinc (v := x4 + (1 : Int32)) (lv' := [(4, .int (x4 + (1 : Int32))), (0, .ref (a 0)), (1, .int x1), (2, .int x2), (3, .int x3)]) hx hb kd_M_read_83 hl (k := 4) rfl rfl (by decide) rfl (fun ls hl => ?_)
      refine lv_goto (tgt := 43) hx hb kd_M_read_86 (by decide) ?_
      exact hk43 x1 x2 x3 (x4 + (1 : Int32)) s6 hF H locs hP hD hS ls (lv_sub hl [1, 2, 3, 4, 0] rfl)
def l_M_read_43 : Nat → Int32 → Int32 → Int32 → Int32 → fb_S → Option (Int32 × fb_S)
  | 0 => fun _ _ _ _ _ => none
  | n + 1 => b_M_read_43 (l_M_read_43 n)
theorem v_M_read_43 {p : Program} {l : Launch} {e : Env} {s : State} {m : MethodId} {args : Array Value} {below : List Frame} {meth : Method} {c : Code} {A : Nat → Prop} {dC : Nat → ClassId} {dI : Nat → Nat → Nat} {dA : Nat → ClassId} {a : Nat → Nat} (CX : fb_C p s m args meth c kc_M_read (some .int) 5 "FileTreeModel" (dC, dI) vcl (tM dA) A zM) (o : Int32 × fb_S) (n : Nat) : ∀ (x1 : Int32) (x2 : Int32) (x3 : Int32) (x4 : Int32) (st : fb_S), l_M_read_43 n x1 x2 x3 x4 st = some o → fb_G p l e (headSpec kw_M_read rm_M_read).room s m args below meth c (dC, dI) vcl (tM dA) (wM dA a) A (some (.int o.1)) o.2 43 5 [(0, .ref (a 0)), (1, .int x1), (2, .int x2), (3, .int x3), (4, .int x4)] [] st := by
  induction n with
  | zero => intro x1 x2 x3 x4 st hF; cases hF
  | succ n ih => intro x1 x2 x3 x4 st hF; exact w_M_read_43 CX o (l_M_read_43 n) ih x1 x2 x3 x4 st hF
def f_M_read (x1 : Int32) (x2 : Int32) (x3 : Int32) (st : fb_S) : Option (Int32 × fb_S) := (fb_pf st 14 (0 : Int32)).bind fun s1 => (f_M_there x1 s1).bind fun r2 => (if r2.1 = (0 : Int32) then some ((-1 : Int32), r2.2) else (fb_ld (r2.2 4) 64 x1).bind fun v4 => (if v4 = (3 : Int32) then some ((-1 : Int32), r2.2) else (if x2 < (0 : Int32) then some ((-1 : Int32), r2.2) else (if x3 < (0 : Int32) then some ((-1 : Int32), r2.2) else (if x3 ≤ (3072 : Int32) then l_M_read_43 fb_n x1 x2 x3 (0 : Int32) r2.2 else some ((-1 : Int32), r2.2))))))
set_option maxHeartbeats 4000000 in
set_option maxRecDepth 100000 in
theorem w_M_read_0 {p : Program} {l : Launch} {e : Env} {s : State} {m : MethodId} {args : Array Value} {below : List Frame} {meth : Method} {c : Code} {A : Nat → Prop} {dC : Nat → ClassId} {dI : Nat → Nat → Nat} {dA : Nat → ClassId} {a : Nat → Nat} (CX : fb_C p s m args meth c kc_M_read (some .int) 5 "FileTreeModel" (dC, dI) vcl (tM dA) A zM) (o : Int32 × fb_S) (x1 : Int32) (x2 : Int32) (x3 : Int32) (st : fb_S) (hF : f_M_read x1 x2 x3 st = some o) : fb_G p l e (headSpec kw_M_read rm_M_read).room s m args below meth c (dC, dI) vcl (tM dA) (wM dA a) A (some (.int o.1)) o.2 0 5 [(0, .ref (a 0)), (1, .int x1), (2, .int x2), (3, .int x3)] [] st := by
  intro H locs hP hD hS ls hl
  obtain ⟨hx, hb, hr, hml, hown, hts, hK, hA, hlocks, hZ⟩ := id CX
  unfold f_M_read at hF
  refine lv_aload_n hx hb kd_M_read_0 rfl (lv_at hl 0 rfl) ?_
  refine lv_iconst (v := 0) hx hb kd_M_read_1 (by decide) ?_
  obtain ⟨s1, e_s1, hF⟩ := fb_ob hF
  refine va_put (D := (dC, dI)) (ci := 5) (v := .int (0 : Int32)) (ty := .int) (C := "FileTreeModel") (T := ft_M) (N := 18) hx hb hts fi_M fy_M fo_M fn_M hown hK hP hD hS 0 rfl rfl 0 (by decide) (hts _ q_469) (fun _ h9 => h9) rfl (by decide +kernel) rfl rfl (Nat.le_of_ble_eq_true rfl) kd_M_read_2 (fun H locs hP hD hS => ?_)
  cases e_s1
  obtain ⟨s1, e_s1⟩ : ∃ z : fb_S, z = va_up st 14 (upd (st 14) 0 (0 : Int32)) := ⟨_, rfl⟩
  rw [← e_s1] at hF
  have hP : va_P (dC, dI) vcl ((wM dA a) s1) H := by rw [e_s1]; exact hP
  have hD : va_D A ((wM dA a) s1) := by rw [e_s1]; exact hD
  refine lv_aload_n hx hb kd_M_read_5 rfl (lv_at hl 0 rfl) ?_
  refine lv_iload_n hx hb kd_M_read_6 rfl (lv_at hl 1 rfl) ?_
  obtain ⟨r2, e_r2, hF⟩ := fb_ob hF
  refine fb_callV (As := [.int x1]) (rest := []) ⟨hx, hb, hml, hown, hts⟩ zM_mv hZ hK hP hD hS hA (c_M_there l dC dI dA a x1 s1 r2 e_r2) (cwV 1 hts (gd_V q_546 ko_M_there) rfl rfl rfl kh_M_there ⟨Nat.le_of_ble_eq_true rfl, Nat.le_of_ble_eq_true rfl⟩) 5 0 rfl rfl rfl rfl hl.1 rfl (Nat.le_of_ble_eq_true rfl) kd_M_read_7 ⟨Nat.zero_le _, Nat.zero_le _⟩ (fun H locs hP hD hS => ?_)
  refine W.eq (g2 := F0 m 10 ls [.int r2.1]) rfl ?_
  refine lv_if_eq (tgt := 38) hx hb kd_M_read_10 (by decide) (fun c3 => ?_) (fun c3 => ?_)
  · rw [if_pos c3] at hF
    refine lv_iconst (v := (-1)) hx hb kd_M_read_38 (by decide) ?_
    exact fb_ri (o := o) hx hb hr hlocks hK hP hD hS hF kd_M_read_39
  · rw [if_neg c3] at hF
    refine lv_aload_n hx hb kd_M_read_13 rfl (lv_at hl 0 rfl) ?_
    refine va_get (D := (dC, dI)) (ci := 5) (v := .ref (a 5)) (C := "FileTreeModel") (T := ft_M) (N := 18) hx hb hts fi_M hown hK hP 0 rfl rfl 6 (by decide) (hts _ q_475) (fun _ h9 => h9) rfl kd_M_read_14 ?_
    refine lv_iload_n hx hb kd_M_read_17 rfl (lv_at hl 1 rfl) ?_
    obtain ⟨v4, e_v4, hF⟩ := fb_ob hF
    refine fb_iald hx hb hK hP 5 0 rfl rfl e_v4 kd_M_read_18 ?_
    refine lv_iconst (v := 3) hx hb kd_M_read_19 (by decide) ?_
    refine lv_icmp_eq (tgt := 38) hx hb kd_M_read_20 (by decide) (fun c5 => ?_) (fun c5 => ?_)
    · rw [if_pos c5] at hF
      refine lv_iconst (v := (-1)) hx hb kd_M_read_38 (by decide) ?_
      exact fb_ri (o := o) hx hb hr hlocks hK hP hD hS hF kd_M_read_39
    · rw [if_neg c5] at hF
      refine lv_iload_n hx hb kd_M_read_23 rfl (lv_at hl 2 rfl) ?_
      refine lv_if_lt (tgt := 38) hx hb kd_M_read_24 (by decide) (fun c6 => ?_) (fun c6 => ?_)
      · rw [if_pos c6] at hF
        refine lv_iconst (v := (-1)) hx hb kd_M_read_38 (by decide) ?_
        exact fb_ri (o := o) hx hb hr hlocks hK hP hD hS hF kd_M_read_39
      · rw [if_neg c6] at hF
        refine lv_iload_n hx hb kd_M_read_27 rfl (lv_at hl 3 rfl) ?_
        refine lv_if_lt (tgt := 38) hx hb kd_M_read_28 (by decide) (fun c7 => ?_) (fun c7 => ?_)
        · rw [if_pos c7] at hF
          refine lv_iconst (v := (-1)) hx hb kd_M_read_38 (by decide) ?_
          exact fb_ri (o := o) hx hb hr hlocks hK hP hD hS hF kd_M_read_39
        · rw [if_neg c7] at hF
          refine lv_iload_n hx hb kd_M_read_31 rfl (lv_at hl 3 rfl) ?_
          refine lv_sipush (v := 3072) hx hb kd_M_read_32 (by decide) ?_
          refine lv_icmp_le (tgt := 40) hx hb kd_M_read_35 (by decide) (fun c8 => ?_) (fun c8 => ?_)
          · rw [if_pos c8] at hF
            refine lv_iconst (v := 0) hx hb kd_M_read_40 (by decide) ?_
            refine lv_istore (lv' := [(4, .int (0 : Int32)), (0, .ref (a 0)), (1, .int x1), (2, .int x2), (3, .int x3)]) hx hb kd_M_read_41 hl (by decide) rfl (fun ls hl => ?_)
            exact v_M_read_43 CX o fb_n x1 x2 x3 (0 : Int32) r2.2 hF H locs hP hD hS ls (lv_sub hl [1, 2, 3, 4, 0] rfl)
          · rw [if_neg c8] at hF
            refine lv_iconst (v := (-1)) hx hb kd_M_read_38 (by decide) ?_
            exact fb_ri (o := o) hx hb hr hlocks hK hP hD hS hF kd_M_read_39
theorem c_M_read (l : Launch) (dC : Nat → ClassId) (dI : Nat → Nat → Nat) (dA : Nat → ClassId) (a : Nat → Nat) (x1 : Int32) (x2 : Int32) (x3 : Int32) (st : fb_S) (o : Int32 × fb_S) (h : f_M_read x1 x2 x3 st = some o) : fb_M l ky_M_read kw_M_read rm_M_read (dC, dI) vcl (tM dA) (wM dA a) zM [.ref (a 0), .int x1, .int x2, .int x3] (some (.int o.1)) st o.2 := fb_enter (by decide) rfl (Nat.le_of_ble_eq_true rfl) (fun p e s m below meth c A CX hP hD hS ls hl => w_M_read_0 CX o x1 x2 x3 st h s.heap [] hP hD hS ls hl)
abbrev rm_M_save : Room := { frames := 2, cells := 0, slots := 0, locals := 46 }
def b_M_save_153 (x1 : Int32) (x2 : Int32) (x4 : Int32) (st : fb_S) : Option (Int32 × fb_S) := (fb_ld (st 8) 64 x1).bind fun v1 => (if (x2 + x4) ≤ v1 then (fb_ld (st 8) 64 x1).bind fun v3 => (fb_st st 8 64 x1 v3).bind fun s4 => some (x4, s4) else (fb_st st 8 64 x1 (x2 + x4)).bind fun s5 => some (x4, s5))
set_option maxHeartbeats 4000000 in
set_option maxRecDepth 100000 in
theorem w_M_save_153 {p : Program} {l : Launch} {e : Env} {s : State} {m : MethodId} {args : Array Value} {below : List Frame} {meth : Method} {c : Code} {A : Nat → Prop} {dC : Nat → ClassId} {dI : Nat → Nat → Nat} {dA : Nat → ClassId} {a : Nat → Nat} (CX : fb_C p s m args meth c kc_M_save (some .int) 6 "FileTreeModel" (dC, dI) vcl (tM dA) A zM) (o : Int32 × fb_S) (x1 : Int32) (x2 : Int32) (x4 : Int32) (st : fb_S) (hF : b_M_save_153 x1 x2 x4 st = some o) : fb_G p l e (headSpec kw_M_save rm_M_save).room s m args below meth c (dC, dI) vcl (tM dA) (wM dA a) A (some (.int o.1)) o.2 153 6 [(0, .ref (a 0)), (1, .int x1), (2, .int x2), (4, .int x4)] [] st := by
  intro H locs hP hD hS ls hl
  obtain ⟨hx, hb, hr, hml, hown, hts, hK, hA, hlocks, hZ⟩ := id CX
  unfold b_M_save_153 at hF
  refine lv_aload_n hx hb kd_M_save_153 rfl (lv_at hl 0 rfl) ?_
  refine va_get (D := (dC, dI)) (ci := 5) (v := .ref (a 9)) (C := "FileTreeModel") (T := ft_M) (N := 18) hx hb hts fi_M hown hK hP 0 rfl rfl 10 (by decide) (hts _ q_479) (fun _ h9 => h9) rfl kd_M_save_154 ?_
  refine lv_iload_n hx hb kd_M_save_157 rfl (lv_at hl 1 rfl) ?_
  refine lv_aload_n hx hb kd_M_save_158 rfl (lv_at hl 0 rfl) ?_
  refine va_get (D := (dC, dI)) (ci := 5) (v := .ref (a 9)) (C := "FileTreeModel") (T := ft_M) (N := 18) hx hb hts fi_M hown hK hP 0 rfl rfl 10 (by decide) (hts _ q_479) (fun _ h9 => h9) rfl kd_M_save_159 ?_
  refine lv_iload_n hx hb kd_M_save_162 rfl (lv_at hl 1 rfl) ?_
  obtain ⟨v1, e_v1, hF⟩ := fb_ob hF
  refine fb_iald hx hb hK hP 9 0 rfl rfl e_v1 kd_M_save_163 ?_
  refine lv_iload_n hx hb kd_M_save_164 rfl (lv_at hl 2 rfl) ?_
  refine lv_iload hx hb kd_M_save_165 (lv_at hl 3 rfl) ?_
  refine lv_iadd hx hb kd_M_save_167 ?_
  refine lv_icmp_ge (tgt := 178) hx hb kd_M_save_168 (by decide) (fun c2 => ?_) (fun c2 => ?_)
  · rw [if_pos c2] at hF
    refine lv_aload_n hx hb kd_M_save_178 rfl (lv_at hl 0 rfl) ?_
    refine va_get (D := (dC, dI)) (ci := 5) (v := .ref (a 9)) (C := "FileTreeModel") (T := ft_M) (N := 18) hx hb hts fi_M hown hK hP 0 rfl rfl 10 (by decide) (hts _ q_479) (fun _ h9 => h9) rfl kd_M_save_179 ?_
    refine lv_iload_n hx hb kd_M_save_182 rfl (lv_at hl 1 rfl) ?_
    obtain ⟨v3, e_v3, hF⟩ := fb_ob hF
    refine fb_iald hx hb hK hP 9 0 rfl rfl e_v3 kd_M_save_183 ?_
    obtain ⟨s4, e_s4, hF⟩ := fb_ob hF
    refine fb_iast (wx := (wM dA a)) (k := 8) hx hb hK hP hD hS 9 0 rfl rfl e_s4 (fun _ => rfl) kd_M_save_184 (fun H locs hP hD hS => ?_)
    refine lv_iload hx hb kd_M_save_185 (lv_at hl 3 rfl) ?_
    exact fb_ri (o := o) hx hb hr hlocks hK hP hD hS hF kd_M_save_187
  · rw [if_neg c2] at hF
    refine lv_iload_n hx hb kd_M_save_171 rfl (lv_at hl 2 rfl) ?_
    refine lv_iload hx hb kd_M_save_172 (lv_at hl 3 rfl) ?_
    refine lv_iadd hx hb kd_M_save_174 ?_
    refine lv_goto (tgt := 184) hx hb kd_M_save_175 (by decide) ?_
    obtain ⟨s5, e_s5, hF⟩ := fb_ob hF
    refine fb_iast (wx := (wM dA a)) (k := 8) hx hb hK hP hD hS 9 0 rfl rfl e_s5 (fun _ => rfl) kd_M_save_184 (fun H locs hP hD hS => ?_)
    refine lv_iload hx hb kd_M_save_185 (lv_at hl 3 rfl) ?_
    exact fb_ri (o := o) hx hb hr hlocks hK hP hD hS hF kd_M_save_187
def b_M_save_121 (k64 : Int32 → Int32 → Int32 → Int32 → Int32 → fb_S → Option (Int32 × fb_S)) (x1 : Int32) (x2 : Int32) (x3 : Int32) (x4 : Int32) (x5 : Int32) (st : fb_S) : Option (Int32 × fb_S) := (if x5 = (0 : Int32) then k64 x1 x2 x3 x4 x5 st else (f_M_place x1 (x2 + x4) st).bind fun r2 => (fb_ld (r2.2 1) 3072 x4).bind fun v3 => (fb_st r2.2 2 524288 r2.1 (fb_b v3)).bind fun s4 => k64 x1 x2 x3 (x4 + (1 : Int32)) x5 s4)
set_option maxHeartbeats 4000000 in
set_option maxRecDepth 100000 in
theorem w_M_save_121 {p : Program} {l : Launch} {e : Env} {s : State} {m : MethodId} {args : Array Value} {below : List Frame} {meth : Method} {c : Code} {A : Nat → Prop} {dC : Nat → ClassId} {dI : Nat → Nat → Nat} {dA : Nat → ClassId} {a : Nat → Nat} (CX : fb_C p s m args meth c kc_M_save (some .int) 6 "FileTreeModel" (dC, dI) vcl (tM dA) A zM) (o : Int32 × fb_S) (k64 : Int32 → Int32 → Int32 → Int32 → Int32 → fb_S → Option (Int32 × fb_S)) (hk64 : ∀ (x1 : Int32) (x2 : Int32) (x3 : Int32) (x4 : Int32) (x5 : Int32) (st : fb_S), k64 x1 x2 x3 x4 x5 st = some o → fb_G p l e (headSpec kw_M_save rm_M_save).room s m args below meth c (dC, dI) vcl (tM dA) (wM dA a) A (some (.int o.1)) o.2 64 6 [(0, .ref (a 0)), (1, .int x1), (2, .int x2), (3, .int x3), (4, .int x4), (5, .int x5)] [] st) (x1 : Int32) (x2 : Int32) (x3 : Int32) (x4 : Int32) (x5 : Int32) (st : fb_S) (hF : b_M_save_121 k64 x1 x2 x3 x4 x5 st = some o) : fb_G p l e (headSpec kw_M_save rm_M_save).room s m args below meth c (dC, dI) vcl (tM dA) (wM dA a) A (some (.int o.1)) o.2 121 6 [(0, .ref (a 0)), (1, .int x1), (2, .int x2), (3, .int x3), (4, .int x4), (5, .int x5)] [] st := by
  intro H locs hP hD hS ls hl
  obtain ⟨hx, hb, hr, hml, hown, hts, hK, hA, hlocks, hZ⟩ := id CX
  unfold b_M_save_121 at hF
  refine lv_iload hx hb kd_M_save_121 (lv_at hl 5 rfl) ?_
  refine lv_if_eq (tgt := 64) hx hb kd_M_save_123 (by decide) (fun c1 => ?_) (fun c1 => ?_)
  · rw [if_pos c1] at hF
    exact hk64 x1 x2 x3 x4 x5 st hF H locs hP hD hS ls (lv_sub hl [0, 1, 2, 3, 4, 5] rfl)
  · rw [if_neg c1] at hF
    refine lv_aload_n hx hb kd_M_save_126 rfl (lv_at hl 0 rfl) ?_
    refine va_get (D := (dC, dI)) (ci := 5) (v := .ref (a 3)) (C := "FileTreeModel") (T := ft_M) (N := 18) hx hb hts fi_M hown hK hP 0 rfl rfl 4 (by decide) (hts _ q_473) (fun _ h9 => h9) rfl kd_M_save_127 ?_
    refine lv_aload_n hx hb kd_M_save_130 rfl (lv_at hl 0 rfl) ?_
    refine lv_iload_n hx hb kd_M_save_131 rfl (lv_at hl 1 rfl) ?_
    refine lv_iload_n hx hb kd_M_save_132 rfl (lv_at hl 2 rfl) ?_
    refine lv_iload hx hb kd_M_save_133 (lv_at hl 4 rfl) ?_
    refine lv_iadd hx hb kd_M_save_135 ?_
    obtain ⟨r2, e_r2, hF⟩ := fb_ob hF
    refine fb_callV (As := [.int x1, .int (x2 + x4)]) (rest := [.ref (a 3)]) ⟨hx, hb, hml, hown, hts⟩ zM_mv hZ hK hP hD hS hA (c_M_place l dC dI dA a x1 (x2 + x4) st r2 e_r2) (cwV 2 hts (gd_V q_465 ko_M_place) rfl rfl rfl kh_M_place ⟨Nat.le_of_ble_eq_true rfl, Nat.le_of_ble_eq_true rfl⟩) 5 0 rfl rfl rfl rfl hl.1 rfl (Nat.le_of_ble_eq_true rfl) kd_M_save_136 ⟨Nat.zero_le _, Nat.zero_le _⟩ (fun H locs hP hD hS => ?_)
    refine W.eq (g2 := F0 m 139 ls [.int r2.1, .ref (a 3)]) rfl ?_
    refine lv_aload_n hx hb kd_M_save_139 rfl (lv_at hl 0 rfl) ?_
    refine va_get (D := (dC, dI)) (ci := 5) (v := .ref (a 2)) (C := "FileTreeModel") (T := ft_M) (N := 18) hx hb hts fi_M hown hK hP 0 rfl rfl 3 (by decide) (hts _ q_472) (fun _ h9 => h9) rfl kd_M_save_140 ?_
    refine lv_iload hx hb kd_M_save_143 (lv_at hl 4 rfl) ?_
    obtain ⟨v3, e_v3, hF⟩ := fb_ob hF
    refine fb_bald hx hb hK hP 2 1 rfl rfl e_v3 kd_M_save_145 ?_
    obtain ⟨s4, e_s4, hF⟩ := fb_ob hF
    refine fb_bast (wx := (wM dA a)) (k := 2) hx hb hK hP hD hS 3 1 rfl rfl e_s4 (fun _ => rfl) kd_M_save_146 (fun H locs hP hD hS => ?_)
    refine lv_iinc (v := x4 + (1 : Int32)) (lv' := [(4, .int (x4 + (1 : Int32))), (0, .ref (a 0)), (1, .int x1), (2, .int x2), (3, .int x3), (5, .int x5)]) hx hb kd_M_save_147 hl (k := 4) rfl rfl (by decide) rfl (fun ls hl => ?_)
    refine lv_goto (tgt := 64) hx hb kd_M_save_150 (by decide) ?_
    exact hk64 x1 x2 x3 (x4 + (1 : Int32)) x5 s4 hF H locs hP hD hS ls (lv_sub hl [1, 2, 3, 4, 0, 5] rfl)
def b_M_save_109 (k64 : Int32 → Int32 → Int32 → Int32 → Int32 → fb_S → Option (Int32 × fb_S)) (x1 : Int32) (x2 : Int32) (x3 : Int32) (x4 : Int32) (y0 : Int32) (st : fb_S) : Option (Int32 × fb_S) := (if y0 = (0 : Int32) then b_M_save_121 k64 x1 x2 x3 x4 y0 st else (f_M_grow x1 st).bind fun r2 => b_M_save_121 k64 x1 x2 x3 x4 y0 r2.2)
set_option maxHeartbeats 4000000 in
set_option maxRecDepth 100000 in
theorem w_M_save_109 {p : Program} {l : Launch} {e : Env} {s : State} {m : MethodId} {args : Array Value} {below : List Frame} {meth : Method} {c : Code} {A : Nat → Prop} {dC : Nat → ClassId} {dI : Nat → Nat → Nat} {dA : Nat → ClassId} {a : Nat → Nat} (CX : fb_C p s m args meth c kc_M_save (some .int) 6 "FileTreeModel" (dC, dI) vcl (tM dA) A zM) (o : Int32 × fb_S) (k64 : Int32 → Int32 → Int32 → Int32 → Int32 → fb_S → Option (Int32 × fb_S)) (hk64 : ∀ (x1 : Int32) (x2 : Int32) (x3 : Int32) (x4 : Int32) (x5 : Int32) (st : fb_S), k64 x1 x2 x3 x4 x5 st = some o → fb_G p l e (headSpec kw_M_save rm_M_save).room s m args below meth c (dC, dI) vcl (tM dA) (wM dA a) A (some (.int o.1)) o.2 64 6 [(0, .ref (a 0)), (1, .int x1), (2, .int x2), (3, .int x3), (4, .int x4), (5, .int x5)] [] st) (x1 : Int32) (x2 : Int32) (x3 : Int32) (x4 : Int32) (y0 : Int32) (st : fb_S) (hF : b_M_save_109 k64 x1 x2 x3 x4 y0 st = some o) : fb_G p l e (headSpec kw_M_save rm_M_save).room s m args below meth c (dC, dI) vcl (tM dA) (wM dA a) A (some (.int o.1)) o.2 109 6 [(0, .ref (a 0)), (1, .int x1), (2, .int x2), (3, .int x3), (4, .int x4)] [.int y0] st := by
  intro H locs hP hD hS ls hl
  obtain ⟨hx, hb, hr, hml, hown, hts, hK, hA, hlocks, hZ⟩ := id CX
  unfold b_M_save_109 at hF
  refine lv_istore (lv' := [(5, .int y0), (0, .ref (a 0)), (1, .int x1), (2, .int x2), (3, .int x3), (4, .int x4)]) hx hb kd_M_save_109 hl (by decide) rfl (fun ls hl => ?_)
  refine lv_iload hx hb kd_M_save_111 (lv_at hl 0 rfl) ?_
  refine lv_if_eq (tgt := 121) hx hb kd_M_save_113 (by decide) (fun c1 => ?_) (fun c1 => ?_)
  · rw [if_pos c1] at hF
    exact w_M_save_121 CX o k64 hk64 x1 x2 x3 x4 y0 st hF H locs hP hD hS ls (lv_sub hl [1, 2, 3, 4, 5, 0] rfl)
  · rw [if_neg c1] at hF
    refine lv_aload_n hx hb kd_M_save_116 rfl (lv_at hl 1 rfl) ?_
    refine lv_iload_n hx hb kd_M_save_117 rfl (lv_at hl 2 rfl) ?_
    obtain ⟨r2, e_r2, hF⟩ := fb_ob hF
    refine fb_callV (As := [.int x1]) (rest := []) ⟨hx, hb, hml, hown, hts⟩ zM_mv hZ hK hP hD hS hA (c_M_grow l dC dI dA a x1 st r2 e_r2) (cwV 1 hts (gd_V q_445 ko_M_grow) rfl rfl rfl kh_M_grow ⟨Nat.le_of_ble_eq_true rfl, Nat.le_of_ble_eq_true rfl⟩) 5 0 rfl rfl rfl rfl hl.1 rfl (Nat.le_of_ble_eq_true rfl) kd_M_save_118 ⟨Nat.zero_le _, Nat.zero_le _⟩ (fun H locs hP hD hS => ?_)
    refine W.eq (g2 := F0 m 121 ls []) rfl ?_
    exact w_M_save_121 CX o k64 hk64 x1 x2 x3 x4 y0 r2.2 hF H locs hP hD hS ls (lv_sub hl [1, 2, 3, 4, 5, 0] rfl)
def b_M_save_64 (k64 : Int32 → Int32 → Int32 → Int32 → Int32 → fb_S → Option (Int32 × fb_S)) (x1 : Int32) (x2 : Int32) (x3 : Int32) (x4 : Int32) (x5 : Int32) (st : fb_S) : Option (Int32 × fb_S) := (if x3 ≤ x4 then b_M_save_153 x1 x2 x4 st else (if x5 = (0 : Int32) then b_M_save_153 x1 x2 x4 st else (fb_ld (st 10) 64 x1).bind fun v3 => (if ((x2 + x4) / (1024 : Int32)) = v3 then (f_M_left st).bind fun r5 => (f_M_next x1 r5.2).bind fun r6 => (if r5.1 < r6.1 then b_M_save_109 k64 x1 x2 x3 x4 (0 : Int32) r6.2 else b_M_save_109 k64 x1 x2 x3 x4 (1 : Int32) r6.2) else b_M_save_121 k64 x1 x2 x3 x4 x5 st)))
set_option maxHeartbeats 4000000 in
set_option maxRecDepth 100000 in
theorem w_M_save_64 {p : Program} {l : Launch} {e : Env} {s : State} {m : MethodId} {args : Array Value} {below : List Frame} {meth : Method} {c : Code} {A : Nat → Prop} {dC : Nat → ClassId} {dI : Nat → Nat → Nat} {dA : Nat → ClassId} {a : Nat → Nat} (CX : fb_C p s m args meth c kc_M_save (some .int) 6 "FileTreeModel" (dC, dI) vcl (tM dA) A zM) (o : Int32 × fb_S) (k64 : Int32 → Int32 → Int32 → Int32 → Int32 → fb_S → Option (Int32 × fb_S)) (hk64 : ∀ (x1 : Int32) (x2 : Int32) (x3 : Int32) (x4 : Int32) (x5 : Int32) (st : fb_S), k64 x1 x2 x3 x4 x5 st = some o → fb_G p l e (headSpec kw_M_save rm_M_save).room s m args below meth c (dC, dI) vcl (tM dA) (wM dA a) A (some (.int o.1)) o.2 64 6 [(0, .ref (a 0)), (1, .int x1), (2, .int x2), (3, .int x3), (4, .int x4), (5, .int x5)] [] st) (x1 : Int32) (x2 : Int32) (x3 : Int32) (x4 : Int32) (x5 : Int32) (st : fb_S) (hF : b_M_save_64 k64 x1 x2 x3 x4 x5 st = some o) : fb_G p l e (headSpec kw_M_save rm_M_save).room s m args below meth c (dC, dI) vcl (tM dA) (wM dA a) A (some (.int o.1)) o.2 64 6 [(0, .ref (a 0)), (1, .int x1), (2, .int x2), (3, .int x3), (4, .int x4), (5, .int x5)] [] st := by
  intro H locs hP hD hS ls hl
  obtain ⟨hx, hb, hr, hml, hown, hts, hK, hA, hlocks, hZ⟩ := id CX
  unfold b_M_save_64 at hF
  refine lv_iload hx hb kd_M_save_64 (lv_at hl 4 rfl) ?_
  refine lv_iload_n hx hb kd_M_save_66 rfl (lv_at hl 3 rfl) ?_
  refine lv_icmp_ge (tgt := 153) hx hb kd_M_save_67 (by decide) (fun c1 => ?_) (fun c1 => ?_)
  · rw [if_pos c1] at hF
    exact w_M_save_153 CX o x1 x2 x4 st hF H locs hP hD hS ls (lv_sub hl [0, 1, 2, 4] rfl)
  · rw [if_neg c1] at hF
    refine lv_iload hx hb kd_M_save_70 (lv_at hl 5 rfl) ?_
    refine lv_if_eq (tgt := 153) hx hb kd_M_save_72 (by decide) (fun c2 => ?_) (fun c2 => ?_)
    · rw [if_pos c2] at hF
      exact w_M_save_153 CX o x1 x2 x4 st hF H locs hP hD hS ls (lv_sub hl [0, 1, 2, 4] rfl)
    · rw [if_neg c2] at hF
      refine lv_iload_n hx hb kd_M_save_75 rfl (lv_at hl 2 rfl) ?_
      refine lv_iload hx hb kd_M_save_76 (lv_at hl 4 rfl) ?_
      refine lv_iadd hx hb kd_M_save_78 ?_
      refine lv_sipush (v := 1024) hx hb kd_M_save_79 (by decide) ?_
      refine lv_idiv hx hb kd_M_save_82 (by decide) ?_
      refine lv_aload_n hx hb kd_M_save_83 rfl (lv_at hl 0 rfl) ?_
      refine va_get (D := (dC, dI)) (ci := 5) (v := .ref (a 11)) (C := "FileTreeModel") (T := ft_M) (N := 18) hx hb hts fi_M hown hK hP 0 rfl rfl 12 (by decide) (hts _ q_481) (fun _ h9 => h9) rfl kd_M_save_84 ?_
      refine lv_iload_n hx hb kd_M_save_87 rfl (lv_at hl 1 rfl) ?_
      obtain ⟨v3, e_v3, hF⟩ := fb_ob hF
      refine fb_iald hx hb hK hP 11 0 rfl rfl e_v3 kd_M_save_88 ?_
      refine lv_icmp_ne (tgt := 121) hx hb kd_M_save_89 (by decide) (fun c4 => ?_) (fun c4 => ?_)
      · rw [if_neg c4] at hF
        exact w_M_save_121 CX o k64 hk64 x1 x2 x3 x4 x5 st hF H locs hP hD hS ls (lv_sub hl [0, 1, 2, 3, 4, 5] rfl)
      · rw [if_pos c4] at hF
        refine lv_aload_n hx hb kd_M_save_92 rfl (lv_at hl 0 rfl) ?_
        obtain ⟨r5, e_r5, hF⟩ := fb_ob hF
        refine fb_callV (As := []) (rest := []) ⟨hx, hb, hml, hown, hts⟩ zM_mv hZ hK hP hD hS hA (c_M_left l dC dI dA a st r5 e_r5) (cwV 0 hts (gd_V q_594 ko_M_left) rfl rfl rfl kh_M_left ⟨Nat.le_of_ble_eq_true rfl, Nat.le_of_ble_eq_true rfl⟩) 5 0 rfl rfl rfl rfl hl.1 rfl (Nat.le_of_ble_eq_true rfl) kd_M_save_93 ⟨Nat.zero_le _, Nat.zero_le _⟩ (fun H locs hP hD hS => ?_)
        refine W.eq (g2 := F0 m 96 ls [.int r5.1]) rfl ?_
        refine lv_aload_n hx hb kd_M_save_96 rfl (lv_at hl 0 rfl) ?_
        refine lv_iload_n hx hb kd_M_save_97 rfl (lv_at hl 1 rfl) ?_
        obtain ⟨r6, e_r6, hF⟩ := fb_ob hF
        refine fb_callV (As := [.int x1]) (rest := [.int r5.1]) ⟨hx, hb, hml, hown, hts⟩ zM_mv hZ hK hP hD hS hA (c_M_next l dC dI dA a x1 r5.2 r6 e_r6) (cwV 1 hts (gd_V q_590 ko_M_next) rfl rfl rfl kh_M_next ⟨Nat.le_of_ble_eq_true rfl, Nat.le_of_ble_eq_true rfl⟩) 5 0 rfl rfl rfl rfl hl.1 rfl (Nat.le_of_ble_eq_true rfl) kd_M_save_98 ⟨Nat.zero_le _, Nat.zero_le _⟩ (fun H locs hP hD hS => ?_)
        refine W.eq (g2 := F0 m 101 ls [.int r6.1, .int r5.1]) rfl ?_
        refine lv_icmp_lt (tgt := 108) hx hb kd_M_save_101 (by decide) (fun c7 => ?_) (fun c7 => ?_)
        · rw [if_pos c7] at hF
          refine lv_iconst (v := 0) hx hb kd_M_save_108 (by decide) ?_
          exact w_M_save_109 CX o k64 hk64 x1 x2 x3 x4 (0 : Int32) r6.2 hF H locs hP hD hS ls (lv_sub hl [0, 1, 2, 3, 4] rfl)
        · rw [if_neg c7] at hF
          refine lv_iconst (v := 1) hx hb kd_M_save_104 (by decide) ?_
          refine lv_goto (tgt := 109) hx hb kd_M_save_105 (by decide) ?_
          exact w_M_save_109 CX o k64 hk64 x1 x2 x3 x4 (1 : Int32) r6.2 hF H locs hP hD hS ls (lv_sub hl [0, 1, 2, 3, 4] rfl)
def l_M_save_64 : Nat → Int32 → Int32 → Int32 → Int32 → Int32 → fb_S → Option (Int32 × fb_S)
  | 0 => fun _ _ _ _ _ _ => none
  | n + 1 => b_M_save_64 (l_M_save_64 n)
theorem v_M_save_64 {p : Program} {l : Launch} {e : Env} {s : State} {m : MethodId} {args : Array Value} {below : List Frame} {meth : Method} {c : Code} {A : Nat → Prop} {dC : Nat → ClassId} {dI : Nat → Nat → Nat} {dA : Nat → ClassId} {a : Nat → Nat} (CX : fb_C p s m args meth c kc_M_save (some .int) 6 "FileTreeModel" (dC, dI) vcl (tM dA) A zM) (o : Int32 × fb_S) (n : Nat) : ∀ (x1 : Int32) (x2 : Int32) (x3 : Int32) (x4 : Int32) (x5 : Int32) (st : fb_S), l_M_save_64 n x1 x2 x3 x4 x5 st = some o → fb_G p l e (headSpec kw_M_save rm_M_save).room s m args below meth c (dC, dI) vcl (tM dA) (wM dA a) A (some (.int o.1)) o.2 64 6 [(0, .ref (a 0)), (1, .int x1), (2, .int x2), (3, .int x3), (4, .int x4), (5, .int x5)] [] st := by
  induction n with
  | zero => intro x1 x2 x3 x4 x5 st hF; cases hF
  | succ n ih => intro x1 x2 x3 x4 x5 st hF; exact w_M_save_64 CX o (l_M_save_64 n) ih x1 x2 x3 x4 x5 st hF
def f_M_save (x1 : Int32) (x2 : Int32) (x3 : Int32) (st : fb_S) : Option (Int32 × fb_S) := (fb_pf st 14 (0 : Int32)).bind fun s1 => (f_M_there x1 s1).bind fun r2 => (if r2.1 = (0 : Int32) then some ((-1 : Int32), r2.2) else (fb_ld (r2.2 4) 64 x1).bind fun v4 => (if v4 = (2 : Int32) then (if x2 < (0 : Int32) then some ((-1 : Int32), r2.2) else (fb_ld (r2.2 8) 64 x1).bind fun v7 => (if v7 < x2 then some ((-1 : Int32), r2.2) else (if x3 < (0 : Int32) then some ((-1 : Int32), r2.2) else (if (3072 : Int32) < x3 then some ((-1 : Int32), r2.2) else (if (x2 + x3) ≤ (274432 : Int32) then l_M_save_64 fb_n x1 x2 x3 (0 : Int32) (1 : Int32) r2.2 else some ((-1 : Int32), r2.2)))))) else some ((-1 : Int32), r2.2)))
set_option maxHeartbeats 4000000 in
set_option maxRecDepth 100000 in
theorem w_M_save_0 {p : Program} {l : Launch} {e : Env} {s : State} {m : MethodId} {args : Array Value} {below : List Frame} {meth : Method} {c : Code} {A : Nat → Prop} {dC : Nat → ClassId} {dI : Nat → Nat → Nat} {dA : Nat → ClassId} {a : Nat → Nat} (CX : fb_C p s m args meth c kc_M_save (some .int) 6 "FileTreeModel" (dC, dI) vcl (tM dA) A zM) (o : Int32 × fb_S) (x1 : Int32) (x2 : Int32) (x3 : Int32) (st : fb_S) (hF : f_M_save x1 x2 x3 st = some o) : fb_G p l e (headSpec kw_M_save rm_M_save).room s m args below meth c (dC, dI) vcl (tM dA) (wM dA a) A (some (.int o.1)) o.2 0 6 [(0, .ref (a 0)), (1, .int x1), (2, .int x2), (3, .int x3)] [] st := by
  intro H locs hP hD hS ls hl
  obtain ⟨hx, hb, hr, hml, hown, hts, hK, hA, hlocks, hZ⟩ := id CX
  unfold f_M_save at hF
  refine lv_aload_n hx hb kd_M_save_0 rfl (lv_at hl 0 rfl) ?_
  refine lv_iconst (v := 0) hx hb kd_M_save_1 (by decide) ?_
  obtain ⟨s1, e_s1, hF⟩ := fb_ob hF
  refine va_put (D := (dC, dI)) (ci := 5) (v := .int (0 : Int32)) (ty := .int) (C := "FileTreeModel") (T := ft_M) (N := 18) hx hb hts fi_M fy_M fo_M fn_M hown hK hP hD hS 0 rfl rfl 0 (by decide) (hts _ q_469) (fun _ h9 => h9) rfl (by decide +kernel) rfl rfl (Nat.le_of_ble_eq_true rfl) kd_M_save_2 (fun H locs hP hD hS => ?_)
  cases e_s1
  obtain ⟨s1, e_s1⟩ : ∃ z : fb_S, z = va_up st 14 (upd (st 14) 0 (0 : Int32)) := ⟨_, rfl⟩
  rw [← e_s1] at hF
  have hP : va_P (dC, dI) vcl ((wM dA a) s1) H := by rw [e_s1]; exact hP
  have hD : va_D A ((wM dA a) s1) := by rw [e_s1]; exact hD
  refine lv_aload_n hx hb kd_M_save_5 rfl (lv_at hl 0 rfl) ?_
  refine lv_iload_n hx hb kd_M_save_6 rfl (lv_at hl 1 rfl) ?_
  obtain ⟨r2, e_r2, hF⟩ := fb_ob hF
  refine fb_callV (As := [.int x1]) (rest := []) ⟨hx, hb, hml, hown, hts⟩ zM_mv hZ hK hP hD hS hA (c_M_there l dC dI dA a x1 s1 r2 e_r2) (cwV 1 hts (gd_V q_546 ko_M_there) rfl rfl rfl kh_M_there ⟨Nat.le_of_ble_eq_true rfl, Nat.le_of_ble_eq_true rfl⟩) 5 0 rfl rfl rfl rfl hl.1 rfl (Nat.le_of_ble_eq_true rfl) kd_M_save_7 ⟨Nat.zero_le _, Nat.zero_le _⟩ (fun H locs hP hD hS => ?_)
  refine W.eq (g2 := F0 m 10 ls [.int r2.1]) rfl ?_
  refine lv_if_eq (tgt := 56) hx hb kd_M_save_10 (by decide) (fun c3 => ?_) (fun c3 => ?_)
  · rw [if_pos c3] at hF
    refine lv_iconst (v := (-1)) hx hb kd_M_save_56 (by decide) ?_
    exact fb_ri (o := o) hx hb hr hlocks hK hP hD hS hF kd_M_save_57
  · rw [if_neg c3] at hF
    refine lv_aload_n hx hb kd_M_save_13 rfl (lv_at hl 0 rfl) ?_
    refine va_get (D := (dC, dI)) (ci := 5) (v := .ref (a 5)) (C := "FileTreeModel") (T := ft_M) (N := 18) hx hb hts fi_M hown hK hP 0 rfl rfl 6 (by decide) (hts _ q_475) (fun _ h9 => h9) rfl kd_M_save_14 ?_
    refine lv_iload_n hx hb kd_M_save_17 rfl (lv_at hl 1 rfl) ?_
    obtain ⟨v4, e_v4, hF⟩ := fb_ob hF
    refine fb_iald hx hb hK hP 5 0 rfl rfl e_v4 kd_M_save_18 ?_
    refine lv_iconst (v := 2) hx hb kd_M_save_19 (by decide) ?_
    refine lv_icmp_ne (tgt := 56) hx hb kd_M_save_20 (by decide) (fun c5 => ?_) (fun c5 => ?_)
    · rw [if_neg c5] at hF
      refine lv_iconst (v := (-1)) hx hb kd_M_save_56 (by decide) ?_
      exact fb_ri (o := o) hx hb hr hlocks hK hP hD hS hF kd_M_save_57
    · rw [if_pos c5] at hF
      refine lv_iload_n hx hb kd_M_save_23 rfl (lv_at hl 2 rfl) ?_
      refine lv_if_lt (tgt := 56) hx hb kd_M_save_24 (by decide) (fun c6 => ?_) (fun c6 => ?_)
      · rw [if_pos c6] at hF
        refine lv_iconst (v := (-1)) hx hb kd_M_save_56 (by decide) ?_
        exact fb_ri (o := o) hx hb hr hlocks hK hP hD hS hF kd_M_save_57
      · rw [if_neg c6] at hF
        refine lv_iload_n hx hb kd_M_save_27 rfl (lv_at hl 2 rfl) ?_
        refine lv_aload_n hx hb kd_M_save_28 rfl (lv_at hl 0 rfl) ?_
        refine va_get (D := (dC, dI)) (ci := 5) (v := .ref (a 9)) (C := "FileTreeModel") (T := ft_M) (N := 18) hx hb hts fi_M hown hK hP 0 rfl rfl 10 (by decide) (hts _ q_479) (fun _ h9 => h9) rfl kd_M_save_29 ?_
        refine lv_iload_n hx hb kd_M_save_32 rfl (lv_at hl 1 rfl) ?_
        obtain ⟨v7, e_v7, hF⟩ := fb_ob hF
        refine fb_iald hx hb hK hP 9 0 rfl rfl e_v7 kd_M_save_33 ?_
        refine lv_icmp_gt (tgt := 56) hx hb kd_M_save_34 (by decide) (fun c8 => ?_) (fun c8 => ?_)
        · rw [if_pos c8] at hF
          refine lv_iconst (v := (-1)) hx hb kd_M_save_56 (by decide) ?_
          exact fb_ri (o := o) hx hb hr hlocks hK hP hD hS hF kd_M_save_57
        · rw [if_neg c8] at hF
          refine lv_iload_n hx hb kd_M_save_37 rfl (lv_at hl 3 rfl) ?_
          refine lv_if_lt (tgt := 56) hx hb kd_M_save_38 (by decide) (fun c9 => ?_) (fun c9 => ?_)
          · rw [if_pos c9] at hF
            refine lv_iconst (v := (-1)) hx hb kd_M_save_56 (by decide) ?_
            exact fb_ri (o := o) hx hb hr hlocks hK hP hD hS hF kd_M_save_57
          · rw [if_neg c9] at hF
            refine lv_iload_n hx hb kd_M_save_41 rfl (lv_at hl 3 rfl) ?_
            refine lv_sipush (v := 3072) hx hb kd_M_save_42 (by decide) ?_
            refine lv_icmp_gt (tgt := 56) hx hb kd_M_save_45 (by decide) (fun c10 => ?_) (fun c10 => ?_)
            · rw [if_pos c10] at hF
              refine lv_iconst (v := (-1)) hx hb kd_M_save_56 (by decide) ?_
              exact fb_ri (o := o) hx hb hr hlocks hK hP hD hS hF kd_M_save_57
            · rw [if_neg c10] at hF
              refine lv_iload_n hx hb kd_M_save_48 rfl (lv_at hl 2 rfl) ?_
              refine lv_iload_n hx hb kd_M_save_49 rfl (lv_at hl 3 rfl) ?_
              refine lv_iadd hx hb kd_M_save_50 ?_
              refine lv_ldc (v := 274432) hx hb hown (hts _ q_589) kd_M_save_51 ?_
              refine lv_icmp_le (tgt := 58) hx hb kd_M_save_53 (by decide) (fun c11 => ?_) (fun c11 => ?_)
              · rw [if_pos c11] at hF
                refine lv_iconst (v := 0) hx hb kd_M_save_58 (by decide) ?_
                refine lv_istore (lv' := [(4, .int (0 : Int32)), (0, .ref (a 0)), (1, .int x1), (2, .int x2), (3, .int x3)]) hx hb kd_M_save_59 hl (by decide) rfl (fun ls hl => ?_)
                refine lv_iconst (v := 1) hx hb kd_M_save_61 (by decide) ?_
                refine lv_istore (lv' := [(5, .int (1 : Int32)), (4, .int (0 : Int32)), (0, .ref (a 0)), (1, .int x1), (2, .int x2), (3, .int x3)]) hx hb kd_M_save_62 hl (by decide) rfl (fun ls hl => ?_)
                exact v_M_save_64 CX o fb_n x1 x2 x3 (0 : Int32) (1 : Int32) r2.2 hF H locs hP hD hS ls (lv_sub hl [2, 3, 4, 5, 1, 0] rfl)
              · rw [if_neg c11] at hF
                refine lv_iconst (v := (-1)) hx hb kd_M_save_56 (by decide) ?_
                exact fb_ri (o := o) hx hb hr hlocks hK hP hD hS hF kd_M_save_57
theorem c_M_save (l : Launch) (dC : Nat → ClassId) (dI : Nat → Nat → Nat) (dA : Nat → ClassId) (a : Nat → Nat) (x1 : Int32) (x2 : Int32) (x3 : Int32) (st : fb_S) (o : Int32 × fb_S) (h : f_M_save x1 x2 x3 st = some o) : fb_M l ky_M_save kw_M_save rm_M_save (dC, dI) vcl (tM dA) (wM dA a) zM [.ref (a 0), .int x1, .int x2, .int x3] (some (.int o.1)) st o.2 := fb_enter (by decide) rfl (Nat.le_of_ble_eq_true rfl) (fun p e s m below meth c A CX hP hD hS ls hl => w_M_save_0 CX o x1 x2 x3 st h s.heap [] hP hD hS ls hl)
