abbrev rm_M_before : Room := { frames := 4, cells := 0, slots := 0, locals := 92 }
def b_M_before_76 (x4 : Int32) (st : fb_S) : Option (Int32 × fb_S) := (if x4 ≤ (0 : Int32) then some ((0 : Int32), st) else (fb_ld (st 4) 64 x4).bind fun v2 => (if v2 = (1 : Int32) then some (x4, st) else some ((0 : Int32), st)))
set_option maxHeartbeats 4000000 in
set_option maxRecDepth 100000 in
theorem w_M_before_76 {p : Program} {l : Launch} {e : Env} {s : State} {m : MethodId} {args : Array Value} {below : List Frame} {meth : Method} {c : Code} {A : Nat → Prop} {dC : Nat → ClassId} {dI : Nat → Nat → Nat} {dA : Nat → ClassId} {a : Nat → Nat} (CX : fb_C p s m args meth c kc_M_before (some .int) 7 "FileTreeModel" (dC, dI) vcl (tM dA) A zM) (o : Int32 × fb_S) (x4 : Int32) (st : fb_S) (hF : b_M_before_76 x4 st = some o) : fb_G p l e (headSpec kw_M_before rm_M_before).room s m args below meth c (dC, dI) vcl (tM dA) (wM dA a) A (some (.int o.1)) o.2 76 7 [(0, .ref (a 0)), (4, .int x4)] [] st := by
  intro H locs hP hD hS ls hl
  obtain ⟨hx, hb, hr, hml, hown, hts, hK, hA, hlocks, hZ⟩ := id CX
  unfold b_M_before_76 at hF
  refine lv_iload hx hb kd_M_before_76 (lv_at hl 1 rfl) ?_
  refine lv_if_le (tgt := 97) hx hb kd_M_before_78 (by decide) (fun c1 => ?_) (fun c1 => ?_)
  · rw [if_pos c1] at hF
    refine lv_iconst (v := 0) hx hb kd_M_before_97 (by decide) ?_
    exact fb_ri (o := o) hx hb hr hlocks hK hP hD hS hF kd_M_before_98
  · rw [if_neg c1] at hF
    refine lv_aload_n hx hb kd_M_before_81 rfl (lv_at hl 0 rfl) ?_
    refine va_get (D := (dC, dI)) (ci := 5) (v := .ref (a 5)) (C := "FileTreeModel") (T := ft_M) (N := 18) hx hb hts fi_M hown hK hP 0 rfl rfl 6 (by decide) (hts _ q_475) (fun _ h9 => h9) rfl kd_M_before_82 ?_
    refine lv_iload hx hb kd_M_before_85 (lv_at hl 1 rfl) ?_
    obtain ⟨v2, e_v2, hF⟩ := fb_ob hF
    refine fb_iald hx hb hK hP 5 0 rfl rfl e_v2 kd_M_before_87 ?_
    refine lv_iconst (v := 1) hx hb kd_M_before_88 (by decide) ?_
    refine lv_icmp_ne (tgt := 97) hx hb kd_M_before_89 (by decide) (fun c3 => ?_) (fun c3 => ?_)
    · rw [if_neg c3] at hF
      refine lv_iconst (v := 0) hx hb kd_M_before_97 (by decide) ?_
      exact fb_ri (o := o) hx hb hr hlocks hK hP hD hS hF kd_M_before_98
    · rw [if_pos c3] at hF
      refine lv_iload hx hb kd_M_before_92 (lv_at hl 1 rfl) ?_
      refine lv_goto (tgt := 98) hx hb kd_M_before_94 (by decide) ?_
      exact fb_ri (o := o) hx hb hr hlocks hK hP hD hS hF kd_M_before_98
def b_M_before_39 (k39 : Int32 → fb_S → Option (Int32 × fb_S)) (x4 : Int32) (st : fb_S) : Option (Int32 × fb_S) := (if (st 17 0) ≤ (st 16 0) then b_M_before_76 x4 st else (if x4 ≤ (0 : Int32) then b_M_before_76 x4 st else (f_M_step x4 st).bind fun r3 => (f_M_named r3.2).bind fun r4 => (f_M_slashes r4.2).bind fun r5 => k39 r3.1 r5.2))
set_option maxHeartbeats 4000000 in
set_option maxRecDepth 100000 in
theorem w_M_before_39 {p : Program} {l : Launch} {e : Env} {s : State} {m : MethodId} {args : Array Value} {below : List Frame} {meth : Method} {c : Code} {A : Nat → Prop} {dC : Nat → ClassId} {dI : Nat → Nat → Nat} {dA : Nat → ClassId} {a : Nat → Nat} (CX : fb_C p s m args meth c kc_M_before (some .int) 7 "FileTreeModel" (dC, dI) vcl (tM dA) A zM) (o : Int32 × fb_S) (k39 : Int32 → fb_S → Option (Int32 × fb_S)) (hk39 : ∀ (x4 : Int32) (st : fb_S), k39 x4 st = some o → fb_G p l e (headSpec kw_M_before rm_M_before).room s m args below meth c (dC, dI) vcl (tM dA) (wM dA a) A (some (.int o.1)) o.2 39 7 [(0, .ref (a 0)), (4, .int x4)] [] st) (x4 : Int32) (st : fb_S) (hF : b_M_before_39 k39 x4 st = some o) : fb_G p l e (headSpec kw_M_before rm_M_before).room s m args below meth c (dC, dI) vcl (tM dA) (wM dA a) A (some (.int o.1)) o.2 39 7 [(0, .ref (a 0)), (4, .int x4)] [] st := by
  intro H locs hP hD hS ls hl
  obtain ⟨hx, hb, hr, hml, hown, hts, hK, hA, hlocks, hZ⟩ := id CX
  unfold b_M_before_39 at hF
  refine lv_aload_n hx hb kd_M_before_39 rfl (lv_at hl 0 rfl) ?_
  refine va_get (D := (dC, dI)) (ci := 5) (v := .int (st 16 0)) (C := "FileTreeModel") (T := ft_M) (N := 18) hx hb hts fi_M hown hK hP 0 rfl rfl 15 (by decide) (hts _ q_484) (fun _ h9 => h9) rfl kd_M_before_40 ?_
  refine lv_aload_n hx hb kd_M_before_43 rfl (lv_at hl 0 rfl) ?_
  refine va_get (D := (dC, dI)) (ci := 5) (v := .int (st 17 0)) (C := "FileTreeModel") (T := ft_M) (N := 18) hx hb hts fi_M hown hK hP 0 rfl rfl 16 (by decide) (hts _ q_485) (fun _ h9 => h9) rfl kd_M_before_44 ?_
  refine lv_icmp_ge (tgt := 76) hx hb kd_M_before_47 (by decide) (fun c1 => ?_) (fun c1 => ?_)
  · rw [if_pos c1] at hF
    exact w_M_before_76 CX o x4 st hF H locs hP hD hS ls (lv_sub hl [0, 1] rfl)
  · rw [if_neg c1] at hF
    refine lv_iload hx hb kd_M_before_50 (lv_at hl 1 rfl) ?_
    refine lv_if_le (tgt := 76) hx hb kd_M_before_52 (by decide) (fun c2 => ?_) (fun c2 => ?_)
    · rw [if_pos c2] at hF
      exact w_M_before_76 CX o x4 st hF H locs hP hD hS ls (lv_sub hl [0, 1] rfl)
    · rw [if_neg c2] at hF
      refine lv_aload_n hx hb kd_M_before_55 rfl (lv_at hl 0 rfl) ?_
      refine lv_iload hx hb kd_M_before_56 (lv_at hl 1 rfl) ?_
      obtain ⟨r3, e_r3, hF⟩ := fb_ob hF
      refine fb_callV (As := [.int x4]) (rest := []) ⟨hx, hb, hml, hown, hts⟩ zM_mv hZ hK hP hD hS hA (c_M_step l dC dI dA a x4 st r3 e_r3) (cwV 1 hts (gd_V q_561 ko_M_step) rfl rfl rfl kh_M_step ⟨Nat.le_of_ble_eq_true rfl, Nat.le_of_ble_eq_true rfl⟩) 5 0 rfl rfl rfl rfl hl.1 rfl (Nat.le_of_ble_eq_true rfl) kd_M_before_58 ⟨Nat.zero_le _, Nat.zero_le _⟩ (fun H locs hP hD hS => ?_)
      refine W.eq (g2 := F0 m 61 ls [.int r3.1]) rfl ?_
      refine lv_istore (lv' := [(4, .int r3.1), (0, .ref (a 0))]) hx hb kd_M_before_61 hl (by decide) rfl (fun ls hl => ?_)
      refine lv_aload_n hx hb kd_M_before_63 rfl (lv_at hl 1 rfl) ?_
      obtain ⟨r4, e_r4, hF⟩ := fb_ob hF
      refine fb_callV (As := []) (rest := []) ⟨hx, hb, hml, hown, hts⟩ zM_mv hZ hK hP hD hS hA (c_M_named l dC dI dA a r3.2 r4 e_r4) (cwV 0 hts (gd_V q_553 ko_M_named) rfl rfl rfl kh_M_named ⟨Nat.le_of_ble_eq_true rfl, Nat.le_of_ble_eq_true rfl⟩) 5 0 rfl rfl rfl rfl hl.1 rfl (Nat.le_of_ble_eq_true rfl) kd_M_before_64 ⟨Nat.zero_le _, Nat.zero_le _⟩ (fun H locs hP hD hS => ?_)
      refine W.eq (g2 := F0 m 67 ls [.int r4.1]) rfl ?_
      refine lv_istore (lv' := [(6, .int r4.1), (4, .int r3.1), (0, .ref (a 0))]) hx hb kd_M_before_67 hl (by decide) rfl (fun ls hl => ?_)
      refine lv_aload_n hx hb kd_M_before_69 rfl (lv_at hl 2 rfl) ?_
      obtain ⟨r5, e_r5, hF⟩ := fb_ob hF
      refine fb_callV (As := []) (rest := []) ⟨hx, hb, hml, hown, hts⟩ zM_mv hZ hK hP hD hS hA (c_M_slashes l dC dI dA a r4.2 r5 e_r5) (cwV 0 hts (gd_V q_557 ko_M_slashes) rfl rfl rfl kh_M_slashes ⟨Nat.le_of_ble_eq_true rfl, Nat.le_of_ble_eq_true rfl⟩) 5 0 rfl rfl rfl rfl hl.1 rfl (Nat.le_of_ble_eq_true rfl) kd_M_before_70 ⟨Nat.zero_le _, Nat.zero_le _⟩ (fun H locs hP hD hS => ?_)
      refine W.eq (g2 := F0 m 73 ls []) rfl ?_
      refine lv_goto (tgt := 39) hx hb kd_M_before_73 (by decide) ?_
      exact hk39 r3.1 r5.2 hF H locs hP hD hS ls (lv_sub hl [2, 1] rfl)
def l_M_before_39 : Nat → Int32 → fb_S → Option (Int32 × fb_S)
  | 0 => fun _ _ => none
  | n + 1 => b_M_before_39 (l_M_before_39 n)
theorem v_M_before_39 {p : Program} {l : Launch} {e : Env} {s : State} {m : MethodId} {args : Array Value} {below : List Frame} {meth : Method} {c : Code} {A : Nat → Prop} {dC : Nat → ClassId} {dI : Nat → Nat → Nat} {dA : Nat → ClassId} {a : Nat → Nat} (CX : fb_C p s m args meth c kc_M_before (some .int) 7 "FileTreeModel" (dC, dI) vcl (tM dA) A zM) (o : Int32 × fb_S) (n : Nat) : ∀ (x4 : Int32) (st : fb_S), l_M_before_39 n x4 st = some o → fb_G p l e (headSpec kw_M_before rm_M_before).room s m args below meth c (dC, dI) vcl (tM dA) (wM dA a) A (some (.int o.1)) o.2 39 7 [(0, .ref (a 0)), (4, .int x4)] [] st := by
  induction n with
  | zero => intro x4 st hF; cases hF
  | succ n ih => intro x4 st hF; exact w_M_before_39 CX o (l_M_before_39 n) ih x4 st hF
def b_M_before_26 (x4 : Int32) (y0 : Int32) (st : fb_S) : Option (Int32 × fb_S) := (if y0 = (0 : Int32) then some ((0 : Int32), st) else (f_M_slashes st).bind fun r2 => l_M_before_39 fb_n x4 r2.2)
set_option maxHeartbeats 4000000 in
set_option maxRecDepth 100000 in
theorem w_M_before_26 {p : Program} {l : Launch} {e : Env} {s : State} {m : MethodId} {args : Array Value} {below : List Frame} {meth : Method} {c : Code} {A : Nat → Prop} {dC : Nat → ClassId} {dI : Nat → Nat → Nat} {dA : Nat → ClassId} {a : Nat → Nat} (CX : fb_C p s m args meth c kc_M_before (some .int) 7 "FileTreeModel" (dC, dI) vcl (tM dA) A zM) (o : Int32 × fb_S) (x4 : Int32) (y0 : Int32) (st : fb_S) (hF : b_M_before_26 x4 y0 st = some o) : fb_G p l e (headSpec kw_M_before rm_M_before).room s m args below meth c (dC, dI) vcl (tM dA) (wM dA a) A (some (.int o.1)) o.2 26 7 [(0, .ref (a 0)), (4, .int x4)] [.int y0] st := by
  intro H locs hP hD hS ls hl
  obtain ⟨hx, hb, hr, hml, hown, hts, hK, hA, hlocks, hZ⟩ := id CX
  unfold b_M_before_26 at hF
  refine lv_istore (lv' := [(5, .int y0), (0, .ref (a 0)), (4, .int x4)]) hx hb kd_M_before_26 hl (by decide) rfl (fun ls hl => ?_)
  refine lv_iload hx hb kd_M_before_28 (lv_at hl 0 rfl) ?_
  refine lv_if_ne (tgt := 35) hx hb kd_M_before_30 (by decide) (fun c1 => ?_) (fun c1 => ?_)
  · rw [if_neg c1] at hF
    refine lv_aload_n hx hb kd_M_before_35 rfl (lv_at hl 1 rfl) ?_
    obtain ⟨r2, e_r2, hF⟩ := fb_ob hF
    refine fb_callV (As := []) (rest := []) ⟨hx, hb, hml, hown, hts⟩ zM_mv hZ hK hP hD hS hA (c_M_slashes l dC dI dA a st r2 e_r2) (cwV 0 hts (gd_V q_557 ko_M_slashes) rfl rfl rfl kh_M_slashes ⟨Nat.le_of_ble_eq_true rfl, Nat.le_of_ble_eq_true rfl⟩) 5 0 rfl rfl rfl rfl hl.1 rfl (Nat.le_of_ble_eq_true rfl) kd_M_before_36 ⟨Nat.zero_le _, Nat.zero_le _⟩ (fun H locs hP hD hS => ?_)
    refine W.eq (g2 := F0 m 39 ls []) rfl ?_
    exact v_M_before_39 CX o fb_n x4 r2.2 hF H locs hP hD hS ls (lv_sub hl [1, 2] rfl)
  · rw [if_pos c1] at hF
    refine lv_iconst (v := 0) hx hb kd_M_before_33 (by decide) ?_
    exact fb_ri (o := o) hx hb hr hlocks hK hP hD hS hF kd_M_before_34
def b_M_before_25 (x4 : Int32) (st : fb_S) : Option (Int32 × fb_S) := b_M_before_26 x4 (0 : Int32) st
set_option maxHeartbeats 4000000 in
set_option maxRecDepth 100000 in
theorem w_M_before_25 {p : Program} {l : Launch} {e : Env} {s : State} {m : MethodId} {args : Array Value} {below : List Frame} {meth : Method} {c : Code} {A : Nat → Prop} {dC : Nat → ClassId} {dI : Nat → Nat → Nat} {dA : Nat → ClassId} {a : Nat → Nat} (CX : fb_C p s m args meth c kc_M_before (some .int) 7 "FileTreeModel" (dC, dI) vcl (tM dA) A zM) (o : Int32 × fb_S) (x4 : Int32) (st : fb_S) (hF : b_M_before_25 x4 st = some o) : fb_G p l e (headSpec kw_M_before rm_M_before).room s m args below meth c (dC, dI) vcl (tM dA) (wM dA a) A (some (.int o.1)) o.2 25 7 [(0, .ref (a 0)), (4, .int x4)] [] st := by
  intro H locs hP hD hS ls hl
  obtain ⟨hx, hb, hr, hml, hown, hts, hK, hA, hlocks, hZ⟩ := id CX
  unfold b_M_before_25 at hF
  refine lv_iconst (v := 0) hx hb kd_M_before_25 (by decide) ?_
  exact w_M_before_26 CX o x4 (0 : Int32) st hF H locs hP hD hS ls (lv_sub hl [0, 1] rfl)
def f_M_before (x1 : Int32) (x2 : Int32) (x3 : Int32) (st : fb_S) : Option (Int32 × fb_S) := (f_M_begin x1 x2 x3 st).bind fun r1 => (if r1.1 ≤ (0 : Int32) then b_M_before_25 r1.1 r1.2 else (f_M_named r1.2).bind fun r3 => (if r3.1 = (0 : Int32) then b_M_before_25 r1.1 r3.2 else b_M_before_26 r1.1 (1 : Int32) r3.2))
set_option maxHeartbeats 4000000 in
set_option maxRecDepth 100000 in
theorem w_M_before_0 {p : Program} {l : Launch} {e : Env} {s : State} {m : MethodId} {args : Array Value} {below : List Frame} {meth : Method} {c : Code} {A : Nat → Prop} {dC : Nat → ClassId} {dI : Nat → Nat → Nat} {dA : Nat → ClassId} {a : Nat → Nat} (CX : fb_C p s m args meth c kc_M_before (some .int) 7 "FileTreeModel" (dC, dI) vcl (tM dA) A zM) (o : Int32 × fb_S) (x1 : Int32) (x2 : Int32) (x3 : Int32) (st : fb_S) (hF : f_M_before x1 x2 x3 st = some o) : fb_G p l e (headSpec kw_M_before rm_M_before).room s m args below meth c (dC, dI) vcl (tM dA) (wM dA a) A (some (.int o.1)) o.2 0 7 [(0, .ref (a 0)), (1, .int x1), (2, .int x2), (3, .int x3)] [] st := by
  intro H locs hP hD hS ls hl
  obtain ⟨hx, hb, hr, hml, hown, hts, hK, hA, hlocks, hZ⟩ := id CX
  unfold f_M_before at hF
  refine lv_aload_n hx hb kd_M_before_0 rfl (lv_at hl 0 rfl) ?_
  refine lv_iload_n hx hb kd_M_before_1 rfl (lv_at hl 1 rfl) ?_
  refine lv_iload_n hx hb kd_M_before_2 rfl (lv_at hl 2 rfl) ?_
  refine lv_iload_n hx hb kd_M_before_3 rfl (lv_at hl 3 rfl) ?_
  obtain ⟨r1, e_r1, hF⟩ := fb_ob hF
  refine fb_callV (As := [.int x1, .int x2, .int x3]) (rest := []) ⟨hx, hb, hml, hown, hts⟩ zM_mv hZ hK hP hD hS hA (c_M_begin l dC dI dA a x1 x2 x3 st r1 e_r1) (cwV 3 hts (gd_V q_542 ko_M_begin) rfl rfl rfl kh_M_begin ⟨Nat.le_of_ble_eq_true rfl, Nat.le_of_ble_eq_true rfl⟩) 5 0 rfl rfl rfl rfl hl.1 rfl (Nat.le_of_ble_eq_true rfl) kd_M_before_4 ⟨Nat.zero_le _, Nat.zero_le _⟩ (fun H locs hP hD hS => ?_)
  refine W.eq (g2 := F0 m 7 ls [.int r1.1]) rfl ?_
  refine lv_istore (lv' := [(4, .int r1.1), (0, .ref (a 0)), (1, .int x1), (2, .int x2), (3, .int x3)]) hx hb kd_M_before_7 hl (by decide) rfl (fun ls hl => ?_)
  refine lv_iload hx hb kd_M_before_9 (lv_at hl 0 rfl) ?_
  refine lv_if_le (tgt := 25) hx hb kd_M_before_11 (by decide) (fun c2 => ?_) (fun c2 => ?_)
  · rw [if_pos c2] at hF
    exact w_M_before_25 CX o r1.1 r1.2 hF H locs hP hD hS ls (lv_sub hl [1, 0] rfl)
  · rw [if_neg c2] at hF
    refine lv_aload_n hx hb kd_M_before_14 rfl (lv_at hl 1 rfl) ?_
    obtain ⟨r3, e_r3, hF⟩ := fb_ob hF
    refine fb_callV (As := []) (rest := []) ⟨hx, hb, hml, hown, hts⟩ zM_mv hZ hK hP hD hS hA (c_M_named l dC dI dA a r1.2 r3 e_r3) (cwV 0 hts (gd_V q_553 ko_M_named) rfl rfl rfl kh_M_named ⟨Nat.le_of_ble_eq_true rfl, Nat.le_of_ble_eq_true rfl⟩) 5 0 rfl rfl rfl rfl hl.1 rfl (Nat.le_of_ble_eq_true rfl) kd_M_before_15 ⟨Nat.zero_le _, Nat.zero_le _⟩ (fun H locs hP hD hS => ?_)
    refine W.eq (g2 := F0 m 18 ls [.int r3.1]) rfl ?_
    refine lv_if_eq (tgt := 25) hx hb kd_M_before_18 (by decide) (fun c4 => ?_) (fun c4 => ?_)
    · rw [if_pos c4] at hF
      exact w_M_before_25 CX o r1.1 r3.2 hF H locs hP hD hS ls (lv_sub hl [1, 0] rfl)
    · rw [if_neg c4] at hF
      refine lv_iconst (v := 1) hx hb kd_M_before_21 (by decide) ?_
      refine lv_goto (tgt := 26) hx hb kd_M_before_22 (by decide) ?_
      exact w_M_before_26 CX o r1.1 (1 : Int32) r3.2 hF H locs hP hD hS ls (lv_sub hl [1, 0] rfl)
theorem c_M_before (l : Launch) (dC : Nat → ClassId) (dI : Nat → Nat → Nat) (dA : Nat → ClassId) (a : Nat → Nat) (x1 : Int32) (x2 : Int32) (x3 : Int32) (st : fb_S) (o : Int32 × fb_S) (h : f_M_before x1 x2 x3 st = some o) : fb_M l ky_M_before kw_M_before rm_M_before (dC, dI) vcl (tM dA) (wM dA a) zM [.ref (a 0), .int x1, .int x2, .int x3] (some (.int o.1)) st o.2 := fb_enter (by decide) rfl (Nat.le_of_ble_eq_true rfl) (fun p e s m below meth c A CX hP hD hS ls hl => w_M_before_0 CX o x1 x2 x3 st h s.heap [] hP hD hS ls hl)
abbrev rm_M_vacant : Room := { frames := 2, cells := 0, slots := 0, locals := 45 }
def b_M_vacant_2 (k2 : Int32 → Int32 → fb_S → Option (Int32 × fb_S)) (x1 : Int32) (x2 : Int32) (st : fb_S) : Option (Int32 × fb_S) := (fb_ld (st 8) 64 x1).bind fun v1 => (if v1 ≤ x2 then some (x2, st) else (f_M_numberAt x1 x2 st).bind fun r3 => (if r3.1 ≤ (0 : Int32) then some (x2, r3.2) else k2 x1 (x2 + (16 : Int32)) r3.2))
set_option maxHeartbeats 4000000 in
set_option maxRecDepth 100000 in
theorem w_M_vacant_2 {p : Program} {l : Launch} {e : Env} {s : State} {m : MethodId} {args : Array Value} {below : List Frame} {meth : Method} {c : Code} {A : Nat → Prop} {dC : Nat → ClassId} {dI : Nat → Nat → Nat} {dA : Nat → ClassId} {a : Nat → Nat} (CX : fb_C p s m args meth c kc_M_vacant (some .int) 3 "FileTreeModel" (dC, dI) vcl (tM dA) A zM) (o : Int32 × fb_S) (k2 : Int32 → Int32 → fb_S → Option (Int32 × fb_S)) (hk2 : ∀ (x1 : Int32) (x2 : Int32) (st : fb_S), k2 x1 x2 st = some o → fb_G p l e (headSpec kw_M_vacant rm_M_vacant).room s m args below meth c (dC, dI) vcl (tM dA) (wM dA a) A (some (.int o.1)) o.2 2 3 [(0, .ref (a 0)), (1, .int x1), (2, .int x2)] [] st) (x1 : Int32) (x2 : Int32) (st : fb_S) (hF : b_M_vacant_2 k2 x1 x2 st = some o) : fb_G p l e (headSpec kw_M_vacant rm_M_vacant).room s m args below meth c (dC, dI) vcl (tM dA) (wM dA a) A (some (.int o.1)) o.2 2 3 [(0, .ref (a 0)), (1, .int x1), (2, .int x2)] [] st := by
  intro H locs hP hD hS ls hl
  obtain ⟨hx, hb, hr, hml, hown, hts, hK, hA, hlocks, hZ⟩ := id CX
  unfold b_M_vacant_2 at hF
  refine lv_iload_n hx hb kd_M_vacant_2 rfl (lv_at hl 2 rfl) ?_
  refine lv_aload_n hx hb kd_M_vacant_3 rfl (lv_at hl 0 rfl) ?_
  refine va_get (D := (dC, dI)) (ci := 5) (v := .ref (a 9)) (C := "FileTreeModel") (T := ft_M) (N := 18) hx hb hts fi_M hown hK hP 0 rfl rfl 10 (by decide) (hts _ q_479) (fun _ h9 => h9) rfl kd_M_vacant_4 ?_
  refine lv_iload_n hx hb kd_M_vacant_7 rfl (lv_at hl 1 rfl) ?_
  obtain ⟨v1, e_v1, hF⟩ := fb_ob hF
  refine fb_iald hx hb hK hP 9 0 rfl rfl e_v1 kd_M_vacant_8 ?_
  refine lv_icmp_ge (tgt := 27) hx hb kd_M_vacant_9 (by decide) (fun c2 => ?_) (fun c2 => ?_)
  · rw [if_pos c2] at hF
    refine lv_iload_n hx hb kd_M_vacant_27 rfl (lv_at hl 2 rfl) ?_
    exact fb_ri (o := o) hx hb hr hlocks hK hP hD hS hF kd_M_vacant_28
  · rw [if_neg c2] at hF
    refine lv_aload_n hx hb kd_M_vacant_12 rfl (lv_at hl 0 rfl) ?_
    refine lv_iload_n hx hb kd_M_vacant_13 rfl (lv_at hl 1 rfl) ?_
    refine lv_iload_n hx hb kd_M_vacant_14 rfl (lv_at hl 2 rfl) ?_
    obtain ⟨r3, e_r3, hF⟩ := fb_ob hF
    refine fb_callV (As := [.int x1, .int x2]) (rest := []) ⟨hx, hb, hml, hown, hts⟩ zM_mv hZ hK hP hD hS hA (c_M_numberAt l dC dI dA a x1 x2 st r3 e_r3) (cwV 2 hts (gd_V q_569 ko_M_numberAt) rfl rfl rfl kh_M_numberAt ⟨Nat.le_of_ble_eq_true rfl, Nat.le_of_ble_eq_true rfl⟩) 5 0 rfl rfl rfl rfl hl.1 rfl (Nat.le_of_ble_eq_true rfl) kd_M_vacant_15 ⟨Nat.zero_le _, Nat.zero_le _⟩ (fun H locs hP hD hS => ?_)
    refine W.eq (g2 := F0 m 18 ls [.int r3.1]) rfl ?_
    refine lv_if_le (tgt := 27) hx hb kd_M_vacant_18 (by decide) (fun c4 => ?_) (fun c4 => ?_)
    · rw [if_pos c4] at hF
      refine lv_iload_n hx hb kd_M_vacant_27 rfl (lv_at hl 2 rfl) ?_
      exact fb_ri (o := o) hx hb hr hlocks hK hP hD hS hF kd_M_vacant_28
    · rw [if_neg c4] at hF
      refine lv_iinc (v := x2 + (16 : Int32)) (lv' := [(2, .int (x2 + (16 : Int32))), (0, .ref (a 0)), (1, .int x1)]) hx hb kd_M_vacant_21 hl (k := 2) rfl rfl (by decide) rfl (fun ls hl => ?_)
      refine lv_goto (tgt := 2) hx hb kd_M_vacant_24 (by decide) ?_
      exact hk2 x1 (x2 + (16 : Int32)) r3.2 hF H locs hP hD hS ls (lv_sub hl [1, 2, 0] rfl)
def l_M_vacant_2 : Nat → Int32 → Int32 → fb_S → Option (Int32 × fb_S)
  | 0 => fun _ _ _ => none
  | n + 1 => b_M_vacant_2 (l_M_vacant_2 n)
theorem v_M_vacant_2 {p : Program} {l : Launch} {e : Env} {s : State} {m : MethodId} {args : Array Value} {below : List Frame} {meth : Method} {c : Code} {A : Nat → Prop} {dC : Nat → ClassId} {dI : Nat → Nat → Nat} {dA : Nat → ClassId} {a : Nat → Nat} (CX : fb_C p s m args meth c kc_M_vacant (some .int) 3 "FileTreeModel" (dC, dI) vcl (tM dA) A zM) (o : Int32 × fb_S) (n : Nat) : ∀ (x1 : Int32) (x2 : Int32) (st : fb_S), l_M_vacant_2 n x1 x2 st = some o → fb_G p l e (headSpec kw_M_vacant rm_M_vacant).room s m args below meth c (dC, dI) vcl (tM dA) (wM dA a) A (some (.int o.1)) o.2 2 3 [(0, .ref (a 0)), (1, .int x1), (2, .int x2)] [] st := by
  induction n with
  | zero => intro x1 x2 st hF; cases hF
  | succ n ih => intro x1 x2 st hF; exact w_M_vacant_2 CX o (l_M_vacant_2 n) ih x1 x2 st hF
def f_M_vacant (x1 : Int32) (st : fb_S) : Option (Int32 × fb_S) := l_M_vacant_2 fb_n x1 (0 : Int32) st
set_option maxHeartbeats 4000000 in
set_option maxRecDepth 100000 in
theorem w_M_vacant_0 {p : Program} {l : Launch} {e : Env} {s : State} {m : MethodId} {args : Array Value} {below : List Frame} {meth : Method} {c : Code} {A : Nat → Prop} {dC : Nat → ClassId} {dI : Nat → Nat → Nat} {dA : Nat → ClassId} {a : Nat → Nat} (CX : fb_C p s m args meth c kc_M_vacant (some .int) 3 "FileTreeModel" (dC, dI) vcl (tM dA) A zM) (o : Int32 × fb_S) (x1 : Int32) (st : fb_S) (hF : f_M_vacant x1 st = some o) : fb_G p l e (headSpec kw_M_vacant rm_M_vacant).room s m args below meth c (dC, dI) vcl (tM dA) (wM dA a) A (some (.int o.1)) o.2 0 3 [(0, .ref (a 0)), (1, .int x1)] [] st := by
  intro H locs hP hD hS ls hl
  obtain ⟨hx, hb, hr, hml, hown, hts, hK, hA, hlocks, hZ⟩ := id CX
  unfold f_M_vacant at hF
  refine lv_iconst (v := 0) hx hb kd_M_vacant_0 (by decide) ?_
  refine lv_istore_n (lv' := [(2, .int (0 : Int32)), (0, .ref (a 0)), (1, .int x1)]) hx hb kd_M_vacant_1 rfl hl (by decide) rfl (fun ls hl => ?_)
  exact v_M_vacant_2 CX o fb_n x1 (0 : Int32) st hF H locs hP hD hS ls (lv_sub hl [1, 2, 0] rfl)
theorem c_M_vacant (l : Launch) (dC : Nat → ClassId) (dI : Nat → Nat → Nat) (dA : Nat → ClassId) (a : Nat → Nat) (x1 : Int32) (st : fb_S) (o : Int32 × fb_S) (h : f_M_vacant x1 st = some o) : fb_M l ky_M_vacant kw_M_vacant rm_M_vacant (dC, dI) vcl (tM dA) (wM dA a) zM [.ref (a 0), .int x1] (some (.int o.1)) st o.2 := fb_enter (by decide) rfl (Nat.le_of_ble_eq_true rfl) (fun p e s m below meth c A CX hP hD hS ls hl => w_M_vacant_0 CX o x1 st h s.heap [] hP hD hS ls hl)
abbrev rm_M_next : Room := { frames := 0, cells := 0, slots := 0, locals := 0 }
def f_M_next (x1 : Int32) (st : fb_S) : Option (Int32 × fb_S) := (fb_ld (st 10) 64 x1).bind fun v1 => (if v1 = (12 : Int32) then some ((2 : Int32), st) else some ((1 : Int32), st))
set_option maxHeartbeats 4000000 in
set_option maxRecDepth 100000 in
theorem w_M_next_0 {p : Program} {l : Launch} {e : Env} {s : State} {m : MethodId} {args : Array Value} {below : List Frame} {meth : Method} {c : Code} {A : Nat → Prop} {dC : Nat → ClassId} {dI : Nat → Nat → Nat} {dA : Nat → ClassId} {a : Nat → Nat} (CX : fb_C p s m args meth c kc_M_next (some .int) 2 "FileTreeModel" (dC, dI) vcl (tM dA) A zM) (o : Int32 × fb_S) (x1 : Int32) (st : fb_S) (hF : f_M_next x1 st = some o) : fb_G p l e (headSpec kw_M_next rm_M_next).room s m args below meth c (dC, dI) vcl (tM dA) (wM dA a) A (some (.int o.1)) o.2 0 2 [(0, .ref (a 0)), (1, .int x1)] [] st := by
  intro H locs hP hD hS ls hl
  obtain ⟨hx, hb, hr, hml, hown, hts, hK, hA, hlocks, hZ⟩ := id CX
  unfold f_M_next at hF
  refine lv_aload_n hx hb kd_M_next_0 rfl (lv_at hl 0 rfl) ?_
  refine va_get (D := (dC, dI)) (ci := 5) (v := .ref (a 11)) (C := "FileTreeModel") (T := ft_M) (N := 18) hx hb hts fi_M hown hK hP 0 rfl rfl 12 (by decide) (hts _ q_481) (fun _ h9 => h9) rfl kd_M_next_1 ?_
  refine lv_iload_n hx hb kd_M_next_4 rfl (lv_at hl 1 rfl) ?_
  obtain ⟨v1, e_v1, hF⟩ := fb_ob hF
  refine fb_iald hx hb hK hP 11 0 rfl rfl e_v1 kd_M_next_5 ?_
  refine lv_bipush (v := 12) hx hb kd_M_next_6 (by decide) ?_
  refine lv_icmp_ne (tgt := 15) hx hb kd_M_next_8 (by decide) (fun c2 => ?_) (fun c2 => ?_)
  · rw [if_neg c2] at hF
    refine lv_iconst (v := 1) hx hb kd_M_next_15 (by decide) ?_
    exact fb_ri (o := o) hx hb hr hlocks hK hP hD hS hF kd_M_next_16
  · rw [if_pos c2] at hF
    refine lv_iconst (v := 2) hx hb kd_M_next_11 (by decide) ?_
    refine lv_goto (tgt := 16) hx hb kd_M_next_12 (by decide) ?_
    exact fb_ri (o := o) hx hb hr hlocks hK hP hD hS hF kd_M_next_16
theorem c_M_next (l : Launch) (dC : Nat → ClassId) (dI : Nat → Nat → Nat) (dA : Nat → ClassId) (a : Nat → Nat) (x1 : Int32) (st : fb_S) (o : Int32 × fb_S) (h : f_M_next x1 st = some o) : fb_M l ky_M_next kw_M_next rm_M_next (dC, dI) vcl (tM dA) (wM dA a) zM [.ref (a 0), .int x1] (some (.int o.1)) st o.2 := fb_enter (by decide) rfl (Nat.le_of_ble_eq_true rfl) (fun p e s m below meth c A CX hP hD hS ls hl => w_M_next_0 CX o x1 st h s.heap [] hP hD hS ls hl)
abbrev rm_M_wants : Room := { frames := 3, cells := 0, slots := 0, locals := 67 }
def b_M_wants_43 (st : fb_S) : Option (Int32 × fb_S) := some ((0 : Int32), st)
set_option maxHeartbeats 4000000 in
set_option maxRecDepth 100000 in
theorem w_M_wants_43 {p : Program} {l : Launch} {e : Env} {s : State} {m : MethodId} {args : Array Value} {below : List Frame} {meth : Method} {c : Code} {A : Nat → Prop} {dC : Nat → ClassId} {dI : Nat → Nat → Nat} {dA : Nat → ClassId} {a : Nat → Nat} (CX : fb_C p s m args meth c kc_M_wants (some .int) 3 "FileTreeModel" (dC, dI) vcl (tM dA) A zM) (o : Int32 × fb_S) (st : fb_S) (hF : b_M_wants_43 st = some o) : fb_G p l e (headSpec kw_M_wants rm_M_wants).room s m args below meth c (dC, dI) vcl (tM dA) (wM dA a) A (some (.int o.1)) o.2 43 3 [] [] st := by
  intro H locs hP hD hS ls hl
  obtain ⟨hx, hb, hr, hml, hown, hts, hK, hA, hlocks, hZ⟩ := id CX
  unfold b_M_wants_43 at hF
  refine lv_iconst (v := 0) hx hb kd_M_wants_43 (by decide) ?_
  refine lv_goto (tgt := 52) hx hb kd_M_wants_44 (by decide) ?_
  exact fb_ri (o := o) hx hb hr hlocks hK hP hD hS hF kd_M_wants_52
def f_M_wants (x1 : Int32) (st : fb_S) : Option (Int32 × fb_S) := (f_M_vacant x1 st).bind fun r1 => (fb_ld (r1.2 7) 64 x1).bind fun v2 => (if v2 = (0 : Int32) then some ((1000 : Int32), r1.2) else (if r1.1 = (274432 : Int32) then some ((1000 : Int32), r1.2) else (fb_ld (r1.2 8) 64 x1).bind fun v5 => (if r1.1 < v5 then b_M_wants_43 r1.2 else (if (r1.1 - r1.1 / (1024 : Int32) * (1024 : Int32)) ≤ (0 : Int32) then (f_M_next x1 r1.2).bind fun r8 => some (r8.1, r8.2) else b_M_wants_43 r1.2))))
set_option maxHeartbeats 4000000 in
set_option maxRecDepth 100000 in
theorem w_M_wants_0 {p : Program} {l : Launch} {e : Env} {s : State} {m : MethodId} {args : Array Value} {below : List Frame} {meth : Method} {c : Code} {A : Nat → Prop} {dC : Nat → ClassId} {dI : Nat → Nat → Nat} {dA : Nat → ClassId} {a : Nat → Nat} (CX : fb_C p s m args meth c kc_M_wants (some .int) 3 "FileTreeModel" (dC, dI) vcl (tM dA) A zM) (o : Int32 × fb_S) (x1 : Int32) (st : fb_S) (hF : f_M_wants x1 st = some o) : fb_G p l e (headSpec kw_M_wants rm_M_wants).room s m args below meth c (dC, dI) vcl (tM dA) (wM dA a) A (some (.int o.1)) o.2 0 3 [(0, .ref (a 0)), (1, .int x1)] [] st := by
  intro H locs hP hD hS ls hl
  obtain ⟨hx, hb, hr, hml, hown, hts, hK, hA, hlocks, hZ⟩ := id CX
  unfold f_M_wants at hF
  refine lv_aload_n hx hb kd_M_wants_0 rfl (lv_at hl 0 rfl) ?_
  refine lv_iload_n hx hb kd_M_wants_1 rfl (lv_at hl 1 rfl) ?_
  obtain ⟨r1, e_r1, hF⟩ := fb_ob hF
  refine fb_callV (As := [.int x1]) (rest := []) ⟨hx, hb, hml, hown, hts⟩ zM_mv hZ hK hP hD hS hA (c_M_vacant l dC dI dA a x1 st r1 e_r1) (cwV 1 hts (gd_V q_585 ko_M_vacant) rfl rfl rfl kh_M_vacant ⟨Nat.le_of_ble_eq_true rfl, Nat.le_of_ble_eq_true rfl⟩) 5 0 rfl rfl rfl rfl hl.1 rfl (Nat.le_of_ble_eq_true rfl) kd_M_wants_2 ⟨Nat.zero_le _, Nat.zero_le _⟩ (fun H locs hP hD hS => ?_)
  refine W.eq (g2 := F0 m 5 ls [.int r1.1]) rfl ?_
  refine lv_istore_n (lv' := [(2, .int r1.1), (0, .ref (a 0)), (1, .int x1)]) hx hb kd_M_wants_5 rfl hl (by decide) rfl (fun ls hl => ?_)
  refine lv_aload_n hx hb kd_M_wants_6 rfl (lv_at hl 1 rfl) ?_
  refine va_get (D := (dC, dI)) (ci := 5) (v := .ref (a 8)) (C := "FileTreeModel") (T := ft_M) (N := 18) hx hb hts fi_M hown hK hP 0 rfl rfl 9 (by decide) (hts _ q_478) (fun _ h9 => h9) rfl kd_M_wants_7 ?_
  refine lv_iload_n hx hb kd_M_wants_10 rfl (lv_at hl 2 rfl) ?_
  obtain ⟨v2, e_v2, hF⟩ := fb_ob hF
  refine fb_iald hx hb hK hP 8 0 rfl rfl e_v2 kd_M_wants_11 ?_
  refine lv_if_eq (tgt := 21) hx hb kd_M_wants_12 (by decide) (fun c3 => ?_) (fun c3 => ?_)
  · rw [if_pos c3] at hF
    refine lv_sipush (v := 1000) hx hb kd_M_wants_21 (by decide) ?_
    exact fb_ri (o := o) hx hb hr hlocks hK hP hD hS hF kd_M_wants_24
  · rw [if_neg c3] at hF
    refine lv_iload_n hx hb kd_M_wants_15 rfl (lv_at hl 0 rfl) ?_
    refine lv_ldc (v := 274432) hx hb hown (hts _ q_589) kd_M_wants_16 ?_
    refine lv_icmp_ne (tgt := 25) hx hb kd_M_wants_18 (by decide) (fun c4 => ?_) (fun c4 => ?_)
    · rw [if_neg c4] at hF
      refine lv_iload_n hx hb kd_M_wants_25 rfl (lv_at hl 0 rfl) ?_
      refine lv_aload_n hx hb kd_M_wants_26 rfl (lv_at hl 1 rfl) ?_
      refine va_get (D := (dC, dI)) (ci := 5) (v := .ref (a 9)) (C := "FileTreeModel") (T := ft_M) (N := 18) hx hb hts fi_M hown hK hP 0 rfl rfl 10 (by decide) (hts _ q_479) (fun _ h9 => h9) rfl kd_M_wants_27 ?_
      refine lv_iload_n hx hb kd_M_wants_30 rfl (lv_at hl 2 rfl) ?_
      obtain ⟨v5, e_v5, hF⟩ := fb_ob hF
      refine fb_iald hx hb hK hP 9 0 rfl rfl e_v5 kd_M_wants_31 ?_
      refine lv_icmp_lt (tgt := 43) hx hb kd_M_wants_32 (by decide) (fun c6 => ?_) (fun c6 => ?_)
      · rw [if_pos c6] at hF
        exact w_M_wants_43 CX o r1.2 hF H locs hP hD hS ls (lv_sub hl [] rfl)
      · rw [if_neg c6] at hF
        refine lv_iload_n hx hb kd_M_wants_35 rfl (lv_at hl 0 rfl) ?_
        refine lv_sipush (v := 1024) hx hb kd_M_wants_36 (by decide) ?_
        refine lv_irem hx hb kd_M_wants_39 (by decide) ?_
        refine lv_if_le (tgt := 47) hx hb kd_M_wants_40 (by decide) (fun c7 => ?_) (fun c7 => ?_)
        · rw [if_pos c7] at hF
          refine lv_aload_n hx hb kd_M_wants_47 rfl (lv_at hl 1 rfl) ?_
          refine lv_iload_n hx hb kd_M_wants_48 rfl (lv_at hl 2 rfl) ?_
          obtain ⟨r8, e_r8, hF⟩ := fb_ob hF
          refine fb_callV (As := [.int x1]) (rest := []) ⟨hx, hb, hml, hown, hts⟩ zM_mv hZ hK hP hD hS hA (c_M_next l dC dI dA a x1 r1.2 r8 e_r8) (cwV 1 hts (gd_V q_590 ko_M_next) rfl rfl rfl kh_M_next ⟨Nat.le_of_ble_eq_true rfl, Nat.le_of_ble_eq_true rfl⟩) 5 0 rfl rfl rfl rfl hl.1 rfl (Nat.le_of_ble_eq_true rfl) kd_M_wants_49 ⟨Nat.zero_le _, Nat.zero_le _⟩ (fun H locs hP hD hS => ?_)
          refine W.eq (g2 := F0 m 52 ls [.int r8.1]) rfl ?_
          exact fb_ri (o := o) hx hb hr hlocks hK hP hD hS hF kd_M_wants_52
        · rw [if_neg c7] at hF
          exact w_M_wants_43 CX o r1.2 hF H locs hP hD hS ls (lv_sub hl [] rfl)
    · rw [if_pos c4] at hF
      refine lv_sipush (v := 1000) hx hb kd_M_wants_21 (by decide) ?_
      exact fb_ri (o := o) hx hb hr hlocks hK hP hD hS hF kd_M_wants_24
theorem c_M_wants (l : Launch) (dC : Nat → ClassId) (dI : Nat → Nat → Nat) (dA : Nat → ClassId) (a : Nat → Nat) (x1 : Int32) (st : fb_S) (o : Int32 × fb_S) (h : f_M_wants x1 st = some o) : fb_M l ky_M_wants kw_M_wants rm_M_wants (dC, dI) vcl (tM dA) (wM dA a) zM [.ref (a 0), .int x1] (some (.int o.1)) st o.2 := fb_enter (by decide) rfl (Nat.le_of_ble_eq_true rfl) (fun p e s m below meth c A CX hP hD hS ls hl => w_M_wants_0 CX o x1 st h s.heap [] hP hD hS ls hl)
abbrev rm_M_left : Room := { frames := 0, cells := 0, slots := 0, locals := 0 }
def b_M_left_27 (k5 : Int32 → Int32 → fb_S → Option (Int32 × fb_S)) (x2 : Int32) (y0 : Int32) (y1 : Int32) (st : fb_S) : Option (Int32 × fb_S) := k5 (y1 + y0) (x2 + (1 : Int32)) st
set_option maxHeartbeats 4000000 in
set_option maxRecDepth 100000 in
theorem w_M_left_27 {p : Program} {l : Launch} {e : Env} {s : State} {m : MethodId} {args : Array Value} {below : List Frame} {meth : Method} {c : Code} {A : Nat → Prop} {dC : Nat → ClassId} {dI : Nat → Nat → Nat} {dA : Nat → ClassId} {a : Nat → Nat} (CX : fb_C p s m args meth c kc_M_left (some .int) 3 "FileTreeModel" (dC, dI) vcl (tM dA) A zM) (o : Int32 × fb_S) (k5 : Int32 → Int32 → fb_S → Option (Int32 × fb_S)) (hk5 : ∀ (x1 : Int32) (x2 : Int32) (st : fb_S), k5 x1 x2 st = some o → fb_G p l e (headSpec kw_M_left rm_M_left).room s m args below meth c (dC, dI) vcl (tM dA) (wM dA a) A (some (.int o.1)) o.2 5 3 [(0, .ref (a 0)), (1, .int x1), (2, .int x2)] [] st) (x2 : Int32) (y0 : Int32) (y1 : Int32) (st : fb_S) (hF : b_M_left_27 k5 x2 y0 y1 st = some o) : fb_G p l e (headSpec kw_M_left rm_M_left).room s m args below meth c (dC, dI) vcl (tM dA) (wM dA a) A (some (.int o.1)) o.2 27 3 [(0, .ref (a 0)), (2, .int x2)] [.int y0, .int y1] st := by
  intro H locs hP hD hS ls hl
  obtain ⟨hx, hb, hr, hml, hown, hts, hK, hA, hlocks, hZ⟩ := id CX
  unfold b_M_left_27 at hF
  refine lv_iadd hx hb kd_M_left_27 ?_
  refine lv_istore_n (lv' := [(1, .int (y1 + y0)), (0, .ref (a 0)), (2, .int x2)]) hx hb kd_M_left_28 rfl hl (by decide) rfl (fun ls hl => ?_)
  refine lv_iinc (v := x2 + (1 : Int32)) (lv' := [(2, .int (x2 + (1 : Int32))), (1, .int (y1 + y0)), (0, .ref (a 0))]) hx hb kd_M_left_29 hl (k := 2) rfl rfl (by decide) rfl (fun ls hl => ?_)
  refine lv_goto (tgt := 5) hx hb kd_M_left_32 (by decide) ?_
  exact hk5 (y1 + y0) (x2 + (1 : Int32)) st hF H locs hP hD hS ls (lv_sub hl [2, 1, 0] rfl)
def b_M_left_5 (k5 : Int32 → Int32 → fb_S → Option (Int32 × fb_S)) (x1 : Int32) (x2 : Int32) (st : fb_S) : Option (Int32 × fb_S) := (if (512 : Int32) ≤ x2 then some (x1, st) else (fb_ld (st 3) 512 x2).bind fun v2 => (if v2 = (0 : Int32) then b_M_left_27 k5 x2 (1 : Int32) x1 st else b_M_left_27 k5 x2 (0 : Int32) x1 st))
set_option maxHeartbeats 4000000 in
set_option maxRecDepth 100000 in
theorem w_M_left_5 {p : Program} {l : Launch} {e : Env} {s : State} {m : MethodId} {args : Array Value} {below : List Frame} {meth : Method} {c : Code} {A : Nat → Prop} {dC : Nat → ClassId} {dI : Nat → Nat → Nat} {dA : Nat → ClassId} {a : Nat → Nat} (CX : fb_C p s m args meth c kc_M_left (some .int) 3 "FileTreeModel" (dC, dI) vcl (tM dA) A zM) (o : Int32 × fb_S) (k5 : Int32 → Int32 → fb_S → Option (Int32 × fb_S)) (hk5 : ∀ (x1 : Int32) (x2 : Int32) (st : fb_S), k5 x1 x2 st = some o → fb_G p l e (headSpec kw_M_left rm_M_left).room s m args below meth c (dC, dI) vcl (tM dA) (wM dA a) A (some (.int o.1)) o.2 5 3 [(0, .ref (a 0)), (1, .int x1), (2, .int x2)] [] st) (x1 : Int32) (x2 : Int32) (st : fb_S) (hF : b_M_left_5 k5 x1 x2 st = some o) : fb_G p l e (headSpec kw_M_left rm_M_left).room s m args below meth c (dC, dI) vcl (tM dA) (wM dA a) A (some (.int o.1)) o.2 5 3 [(0, .ref (a 0)), (1, .int x1), (2, .int x2)] [] st := by
  intro H locs hP hD hS ls hl
  obtain ⟨hx, hb, hr, hml, hown, hts, hK, hA, hlocks, hZ⟩ := id CX
  unfold b_M_left_5 at hF
  refine lv_iload_n hx hb kd_M_left_5 rfl (lv_at hl 2 rfl) ?_
  refine lv_sipush (v := 512) hx hb kd_M_left_6 (by decide) ?_
  refine lv_icmp_ge (tgt := 35) hx hb kd_M_left_9 (by decide) (fun c1 => ?_) (fun c1 => ?_)
  · rw [if_pos c1] at hF
    refine lv_iload_n hx hb kd_M_left_35 rfl (lv_at hl 1 rfl) ?_
    exact fb_ri (o := o) hx hb hr hlocks hK hP hD hS hF kd_M_left_36
  · rw [if_neg c1] at hF
    refine lv_iload_n hx hb kd_M_left_12 rfl (lv_at hl 1 rfl) ?_
    refine lv_aload_n hx hb kd_M_left_13 rfl (lv_at hl 0 rfl) ?_
    refine va_get (D := (dC, dI)) (ci := 5) (v := .ref (a 4)) (C := "FileTreeModel") (T := ft_M) (N := 18) hx hb hts fi_M hown hK hP 0 rfl rfl 5 (by decide) (hts _ q_474) (fun _ h9 => h9) rfl kd_M_left_14 ?_
    refine lv_iload_n hx hb kd_M_left_17 rfl (lv_at hl 2 rfl) ?_
    obtain ⟨v2, e_v2, hF⟩ := fb_ob hF
    refine fb_zald hx hb hK hP 4 2 rfl rfl e_v2 kd_M_left_18 ?_
    refine lv_if_eq (tgt := 26) hx hb kd_M_left_19 (by decide) (fun c3 => ?_) (fun c3 => ?_)
    · rw [if_pos c3] at hF
      refine lv_iconst (v := 1) hx hb kd_M_left_26 (by decide) ?_
      exact w_M_left_27 CX o k5 hk5 x2 (1 : Int32) x1 st hF H locs hP hD hS ls (lv_sub hl [0, 2] rfl)
    · rw [if_neg c3] at hF
      refine lv_iconst (v := 0) hx hb kd_M_left_22 (by decide) ?_
      refine lv_goto (tgt := 27) hx hb kd_M_left_23 (by decide) ?_
      exact w_M_left_27 CX o k5 hk5 x2 (0 : Int32) x1 st hF H locs hP hD hS ls (lv_sub hl [0, 2] rfl)
def l_M_left_5 : Nat → Int32 → Int32 → fb_S → Option (Int32 × fb_S)
  | 0 => fun _ _ _ => none
  | n + 1 => b_M_left_5 (l_M_left_5 n)
theorem v_M_left_5 {p : Program} {l : Launch} {e : Env} {s : State} {m : MethodId} {args : Array Value} {below : List Frame} {meth : Method} {c : Code} {A : Nat → Prop} {dC : Nat → ClassId} {dI : Nat → Nat → Nat} {dA : Nat → ClassId} {a : Nat → Nat} (CX : fb_C p s m args meth c kc_M_left (some .int) 3 "FileTreeModel" (dC, dI) vcl (tM dA) A zM) (o : Int32 × fb_S) (n : Nat) : ∀ (x1 : Int32) (x2 : Int32) (st : fb_S), l_M_left_5 n x1 x2 st = some o → fb_G p l e (headSpec kw_M_left rm_M_left).room s m args below meth c (dC, dI) vcl (tM dA) (wM dA a) A (some (.int o.1)) o.2 5 3 [(0, .ref (a 0)), (1, .int x1), (2, .int x2)] [] st := by
  induction n with
  | zero => intro x1 x2 st hF; cases hF
  | succ n ih => intro x1 x2 st hF; exact w_M_left_5 CX o (l_M_left_5 n) ih x1 x2 st hF
def f_M_left (st : fb_S) : Option (Int32 × fb_S) := l_M_left_5 fb_n (0 : Int32) (38 : Int32) st
set_option maxHeartbeats 4000000 in
set_option maxRecDepth 100000 in
theorem w_M_left_0 {p : Program} {l : Launch} {e : Env} {s : State} {m : MethodId} {args : Array Value} {below : List Frame} {meth : Method} {c : Code} {A : Nat → Prop} {dC : Nat → ClassId} {dI : Nat → Nat → Nat} {dA : Nat → ClassId} {a : Nat → Nat} (CX : fb_C p s m args meth c kc_M_left (some .int) 3 "FileTreeModel" (dC, dI) vcl (tM dA) A zM) (o : Int32 × fb_S) (st : fb_S) (hF : f_M_left st = some o) : fb_G p l e (headSpec kw_M_left rm_M_left).room s m args below meth c (dC, dI) vcl (tM dA) (wM dA a) A (some (.int o.1)) o.2 0 3 [(0, .ref (a 0))] [] st := by
  intro H locs hP hD hS ls hl
  obtain ⟨hx, hb, hr, hml, hown, hts, hK, hA, hlocks, hZ⟩ := id CX
  unfold f_M_left at hF
  refine lv_iconst (v := 0) hx hb kd_M_left_0 (by decide) ?_
  refine lv_istore_n (lv' := [(1, .int (0 : Int32)), (0, .ref (a 0))]) hx hb kd_M_left_1 rfl hl (by decide) rfl (fun ls hl => ?_)
  refine lv_bipush (v := 38) hx hb kd_M_left_2 (by decide) ?_
  refine lv_istore_n (lv' := [(2, .int (38 : Int32)), (1, .int (0 : Int32)), (0, .ref (a 0))]) hx hb kd_M_left_4 rfl hl (by decide) rfl (fun ls hl => ?_)
  exact v_M_left_5 CX o fb_n (0 : Int32) (38 : Int32) st hF H locs hP hD hS ls (lv_sub hl [2, 1, 0] rfl)
theorem c_M_left (l : Launch) (dC : Nat → ClassId) (dI : Nat → Nat → Nat) (dA : Nat → ClassId) (a : Nat → Nat) (st : fb_S) (o : Int32 × fb_S) (h : f_M_left st = some o) : fb_M l ky_M_left kw_M_left rm_M_left (dC, dI) vcl (tM dA) (wM dA a) zM [.ref (a 0)] (some (.int o.1)) st o.2 := fb_enter (by decide) rfl (Nat.le_of_ble_eq_true rfl) (fun p e s m below meth c A CX hP hD hS ls hl => w_M_left_0 CX o st h s.heap [] hP hD hS ls hl)
abbrev rm_M_enter : Room := { frames := 3, cells := 0, slots := 0, locals := 67 }
def b_M_enter_29 (x1 : Int32) (x2 : Int32) (x3 : Int32) (st : fb_S) : Option (Int32 × fb_S) := (f_M_lay x1 x3 x2 st).bind fun r1 => (fb_ld (r1.2 8) 64 x1).bind fun v2 => (if x3 = v2 then (fb_st r1.2 8 64 x1 (x3 + (16 : Int32))).bind fun s6 => some (0, s6) else (fb_ld (r1.2 8) 64 x1).bind fun v4 => (fb_st r1.2 8 64 x1 v4).bind fun s5 => some (0, s5))
set_option maxHeartbeats 4000000 in
set_option maxRecDepth 100000 in
theorem w_M_enter_29 {p : Program} {l : Launch} {e : Env} {s : State} {m : MethodId} {args : Array Value} {below : List Frame} {meth : Method} {c : Code} {A : Nat → Prop} {dC : Nat → ClassId} {dI : Nat → Nat → Nat} {dA : Nat → ClassId} {a : Nat → Nat} (CX : fb_C p s m args meth c kc_M_enter none 4 "FileTreeModel" (dC, dI) vcl (tM dA) A zM) (o : Int32 × fb_S) (x1 : Int32) (x2 : Int32) (x3 : Int32) (st : fb_S) (hF : b_M_enter_29 x1 x2 x3 st = some o) : fb_G p l e (headSpec kw_M_enter rm_M_enter).room s m args below meth c (dC, dI) vcl (tM dA) (wM dA a) A none o.2 29 4 [(0, .ref (a 0)), (1, .int x1), (2, .int x2), (3, .int x3)] [] st := by
  intro H locs hP hD hS ls hl
  obtain ⟨hx, hb, hr, hml, hown, hts, hK, hA, hlocks, hZ⟩ := id CX
  unfold b_M_enter_29 at hF
  refine lv_aload_n hx hb kd_M_enter_29 rfl (lv_at hl 0 rfl) ?_
  refine lv_iload_n hx hb kd_M_enter_30 rfl (lv_at hl 1 rfl) ?_
  refine lv_iload_n hx hb kd_M_enter_31 rfl (lv_at hl 3 rfl) ?_
  refine lv_iload_n hx hb kd_M_enter_32 rfl (lv_at hl 2 rfl) ?_
  obtain ⟨r1, e_r1, hF⟩ := fb_ob hF
  refine fb_callV (As := [.int x1, .int x3, .int x2]) (rest := []) ⟨hx, hb, hml, hown, hts⟩ zM_mv hZ hK hP hD hS hA (c_M_lay l dC dI dA a x1 x3 x2 st r1 e_r1) (cwV 3 hts (gd_V q_461 ko_M_lay) rfl rfl rfl kh_M_lay ⟨Nat.le_of_ble_eq_true rfl, Nat.le_of_ble_eq_true rfl⟩) 5 0 rfl rfl rfl rfl hl.1 rfl (Nat.le_of_ble_eq_true rfl) kd_M_enter_33 ⟨Nat.zero_le _, Nat.zero_le _⟩ (fun H locs hP hD hS => ?_)
  refine W.eq (g2 := F0 m 36 ls []) rfl ?_
  refine lv_aload_n hx hb kd_M_enter_36 rfl (lv_at hl 0 rfl) ?_
  refine va_get (D := (dC, dI)) (ci := 5) (v := .ref (a 9)) (C := "FileTreeModel") (T := ft_M) (N := 18) hx hb hts fi_M hown hK hP 0 rfl rfl 10 (by decide) (hts _ q_479) (fun _ h9 => h9) rfl kd_M_enter_37 ?_
  refine lv_iload_n hx hb kd_M_enter_40 rfl (lv_at hl 1 rfl) ?_
  refine lv_iload_n hx hb kd_M_enter_41 rfl (lv_at hl 3 rfl) ?_
  refine lv_aload_n hx hb kd_M_enter_42 rfl (lv_at hl 0 rfl) ?_
  refine va_get (D := (dC, dI)) (ci := 5) (v := .ref (a 9)) (C := "FileTreeModel") (T := ft_M) (N := 18) hx hb hts fi_M hown hK hP 0 rfl rfl 10 (by decide) (hts _ q_479) (fun _ h9 => h9) rfl kd_M_enter_43 ?_
  refine lv_iload_n hx hb kd_M_enter_46 rfl (lv_at hl 1 rfl) ?_
  obtain ⟨v2, e_v2, hF⟩ := fb_ob hF
  refine fb_iald hx hb hK hP 9 0 rfl rfl e_v2 kd_M_enter_47 ?_
  refine lv_icmp_ne (tgt := 58) hx hb kd_M_enter_48 (by decide) (fun c3 => ?_) (fun c3 => ?_)
  · rw [if_neg c3] at hF
    refine lv_aload_n hx hb kd_M_enter_58 rfl (lv_at hl 0 rfl) ?_
    refine va_get (D := (dC, dI)) (ci := 5) (v := .ref (a 9)) (C := "FileTreeModel") (T := ft_M) (N := 18) hx hb hts fi_M hown hK hP 0 rfl rfl 10 (by decide) (hts _ q_479) (fun _ h9 => h9) rfl kd_M_enter_59 ?_
    refine lv_iload_n hx hb kd_M_enter_62 rfl (lv_at hl 1 rfl) ?_
    obtain ⟨v4, e_v4, hF⟩ := fb_ob hF
    refine fb_iald hx hb hK hP 9 0 rfl rfl e_v4 kd_M_enter_63 ?_
    obtain ⟨s5, e_s5, hF⟩ := fb_ob hF
    refine fb_iast (wx := (wM dA a)) (k := 8) hx hb hK hP hD hS 9 0 rfl rfl e_s5 (fun _ => rfl) kd_M_enter_64 (fun H locs hP hD hS => ?_)
    exact fb_rv (o := o) hx hb hr hlocks hK hP hD hS hF kd_M_enter_65
  · rw [if_pos c3] at hF
    refine lv_iload_n hx hb kd_M_enter_51 rfl (lv_at hl 3 rfl) ?_
    refine lv_bipush (v := 16) hx hb kd_M_enter_52 (by decide) ?_
    refine lv_iadd hx hb kd_M_enter_54 ?_
    refine lv_goto (tgt := 64) hx hb kd_M_enter_55 (by decide) ?_
    obtain ⟨s6, e_s6, hF⟩ := fb_ob hF
    refine fb_iast (wx := (wM dA a)) (k := 8) hx hb hK hP hD hS 9 0 rfl rfl e_s6 (fun _ => rfl) kd_M_enter_64 (fun H locs hP hD hS => ?_)
    exact fb_rv (o := o) hx hb hr hlocks hK hP hD hS hF kd_M_enter_65
def f_M_enter (x1 : Int32) (x2 : Int32) (st : fb_S) : Option (Int32 × fb_S) := (f_M_vacant x1 st).bind fun r1 => (fb_ld (r1.2 8) 64 x1).bind fun v2 => (if r1.1 = v2 then (if (r1.1 - r1.1 / (1024 : Int32) * (1024 : Int32)) = (0 : Int32) then (f_M_grow x1 r1.2).bind fun r5 => b_M_enter_29 x1 x2 r1.1 r5.2 else b_M_enter_29 x1 x2 r1.1 r1.2) else b_M_enter_29 x1 x2 r1.1 r1.2)
set_option maxHeartbeats 4000000 in
set_option maxRecDepth 100000 in
theorem w_M_enter_0 {p : Program} {l : Launch} {e : Env} {s : State} {m : MethodId} {args : Array Value} {below : List Frame} {meth : Method} {c : Code} {A : Nat → Prop} {dC : Nat → ClassId} {dI : Nat → Nat → Nat} {dA : Nat → ClassId} {a : Nat → Nat} (CX : fb_C p s m args meth c kc_M_enter none 4 "FileTreeModel" (dC, dI) vcl (tM dA) A zM) (o : Int32 × fb_S) (x1 : Int32) (x2 : Int32) (st : fb_S) (hF : f_M_enter x1 x2 st = some o) : fb_G p l e (headSpec kw_M_enter rm_M_enter).room s m args below meth c (dC, dI) vcl (tM dA) (wM dA a) A none o.2 0 4 [(0, .ref (a 0)), (1, .int x1), (2, .int x2)] [] st := by
  intro H locs hP hD hS ls hl
  obtain ⟨hx, hb, hr, hml, hown, hts, hK, hA, hlocks, hZ⟩ := id CX
  unfold f_M_enter at hF
  refine lv_aload_n hx hb kd_M_enter_0 rfl (lv_at hl 0 rfl) ?_
  refine lv_iload_n hx hb kd_M_enter_1 rfl (lv_at hl 1 rfl) ?_
  obtain ⟨r1, e_r1, hF⟩ := fb_ob hF
  refine fb_callV (As := [.int x1]) (rest := []) ⟨hx, hb, hml, hown, hts⟩ zM_mv hZ hK hP hD hS hA (c_M_vacant l dC dI dA a x1 st r1 e_r1) (cwV 1 hts (gd_V q_585 ko_M_vacant) rfl rfl rfl kh_M_vacant ⟨Nat.le_of_ble_eq_true rfl, Nat.le_of_ble_eq_true rfl⟩) 5 0 rfl rfl rfl rfl hl.1 rfl (Nat.le_of_ble_eq_true rfl) kd_M_enter_2 ⟨Nat.zero_le _, Nat.zero_le _⟩ (fun H locs hP hD hS => ?_)
  refine W.eq (g2 := F0 m 5 ls [.int r1.1]) rfl ?_
  refine lv_istore_n (lv' := [(3, .int r1.1), (0, .ref (a 0)), (1, .int x1), (2, .int x2)]) hx hb kd_M_enter_5 rfl hl (by decide) rfl (fun ls hl => ?_)
  refine lv_iload_n hx hb kd_M_enter_6 rfl (lv_at hl 0 rfl) ?_
  refine lv_aload_n hx hb kd_M_enter_7 rfl (lv_at hl 1 rfl) ?_
  refine va_get (D := (dC, dI)) (ci := 5) (v := .ref (a 9)) (C := "FileTreeModel") (T := ft_M) (N := 18) hx hb hts fi_M hown hK hP 0 rfl rfl 10 (by decide) (hts _ q_479) (fun _ h9 => h9) rfl kd_M_enter_8 ?_
  refine lv_iload_n hx hb kd_M_enter_11 rfl (lv_at hl 2 rfl) ?_
  obtain ⟨v2, e_v2, hF⟩ := fb_ob hF
  refine fb_iald hx hb hK hP 9 0 rfl rfl e_v2 kd_M_enter_12 ?_
  refine lv_icmp_ne (tgt := 29) hx hb kd_M_enter_13 (by decide) (fun c3 => ?_) (fun c3 => ?_)
  · rw [if_neg c3] at hF
    exact w_M_enter_29 CX o x1 x2 r1.1 r1.2 hF H locs hP hD hS ls (lv_sub hl [1, 2, 3, 0] rfl)
  · rw [if_pos c3] at hF
    refine lv_iload_n hx hb kd_M_enter_16 rfl (lv_at hl 0 rfl) ?_
    refine lv_sipush (v := 1024) hx hb kd_M_enter_17 (by decide) ?_
    refine lv_irem hx hb kd_M_enter_20 (by decide) ?_
    refine lv_if_ne (tgt := 29) hx hb kd_M_enter_21 (by decide) (fun c4 => ?_) (fun c4 => ?_)
    · rw [if_neg c4] at hF
      exact w_M_enter_29 CX o x1 x2 r1.1 r1.2 hF H locs hP hD hS ls (lv_sub hl [1, 2, 3, 0] rfl)
    · rw [if_pos c4] at hF
      refine lv_aload_n hx hb kd_M_enter_24 rfl (lv_at hl 1 rfl) ?_
      refine lv_iload_n hx hb kd_M_enter_25 rfl (lv_at hl 2 rfl) ?_
      obtain ⟨r5, e_r5, hF⟩ := fb_ob hF
      refine fb_callV (As := [.int x1]) (rest := []) ⟨hx, hb, hml, hown, hts⟩ zM_mv hZ hK hP hD hS hA (c_M_grow l dC dI dA a x1 r1.2 r5 e_r5) (cwV 1 hts (gd_V q_445 ko_M_grow) rfl rfl rfl kh_M_grow ⟨Nat.le_of_ble_eq_true rfl, Nat.le_of_ble_eq_true rfl⟩) 5 0 rfl rfl rfl rfl hl.1 rfl (Nat.le_of_ble_eq_true rfl) kd_M_enter_26 ⟨Nat.zero_le _, Nat.zero_le _⟩ (fun H locs hP hD hS => ?_)
      refine W.eq (g2 := F0 m 29 ls []) rfl ?_
      exact w_M_enter_29 CX o x1 x2 r1.1 r5.2 hF H locs hP hD hS ls (lv_sub hl [1, 2, 3, 0] rfl)
theorem c_M_enter (l : Launch) (dC : Nat → ClassId) (dI : Nat → Nat → Nat) (dA : Nat → ClassId) (a : Nat → Nat) (x1 : Int32) (x2 : Int32) (st : fb_S) (o : Int32 × fb_S) (h : f_M_enter x1 x2 st = some o) : fb_M l ky_M_enter kw_M_enter rm_M_enter (dC, dI) vcl (tM dA) (wM dA a) zM [.ref (a 0), .int x1, .int x2] none st o.2 := fb_enter (by decide) rfl (Nat.le_of_ble_eq_true rfl) (fun p e s m below meth c A CX hP hD hS ls hl => w_M_enter_0 CX o x1 x2 st h s.heap [] hP hD hS ls hl)
abbrev rm_M_again : Room := { frames := 2, cells := 0, slots := 0, locals := 42 }
def b_M_again_81 (st : fb_S) : Option (Int32 × fb_S) := (f_M_named st).bind fun r1 => some (0, r1.2)
set_option maxHeartbeats 4000000 in
set_option maxRecDepth 100000 in
theorem w_M_again_81 {p : Program} {l : Launch} {e : Env} {s : State} {m : MethodId} {args : Array Value} {below : List Frame} {meth : Method} {c : Code} {A : Nat → Prop} {dC : Nat → ClassId} {dI : Nat → Nat → Nat} {dA : Nat → ClassId} {a : Nat → Nat} (CX : fb_C p s m args meth c kc_M_again none 3 "FileTreeModel" (dC, dI) vcl (tM dA) A zM) (o : Int32 × fb_S) (st : fb_S) (hF : b_M_again_81 st = some o) : fb_G p l e (headSpec kw_M_again rm_M_again).room s m args below meth c (dC, dI) vcl (tM dA) (wM dA a) A none o.2 81 3 [(0, .ref (a 0))] [] st := by
  intro H locs hP hD hS ls hl
  obtain ⟨hx, hb, hr, hml, hown, hts, hK, hA, hlocks, hZ⟩ := id CX
  unfold b_M_again_81 at hF
  refine lv_aload_n hx hb kd_M_again_81 rfl (lv_at hl 0 rfl) ?_
  obtain ⟨r1, e_r1, hF⟩ := fb_ob hF
  refine fb_callV (As := []) (rest := []) ⟨hx, hb, hml, hown, hts⟩ zM_mv hZ hK hP hD hS hA (c_M_named l dC dI dA a st r1 e_r1) (cwV 0 hts (gd_V q_553 ko_M_named) rfl rfl rfl kh_M_named ⟨Nat.le_of_ble_eq_true rfl, Nat.le_of_ble_eq_true rfl⟩) 5 0 rfl rfl rfl rfl hl.1 rfl (Nat.le_of_ble_eq_true rfl) kd_M_again_82 ⟨Nat.zero_le _, Nat.zero_le _⟩ (fun H locs hP hD hS => ?_)
  refine W.eq (g2 := F0 m 85 ls [.int r1.1]) rfl ?_
  refine lv_istore_n (lv' := [(2, .int r1.1), (0, .ref (a 0))]) hx hb kd_M_again_85 rfl hl (by decide) rfl (fun ls hl => ?_)
  exact fb_rv (o := o) hx hb hr hlocks hK hP hD hS hF kd_M_again_86
def b_M_again_29 (k29 : fb_S → Option (Int32 × fb_S)) (st : fb_S) : Option (Int32 × fb_S) := (if (st 16 0) ≤ (0 : Int32) then b_M_again_81 st else (fb_ld (st 0) 260 ((st 16 0) - (1 : Int32))).bind fun v2 => (if v2 = (47 : Int32) then b_M_again_81 st else (fb_ld (st 0) 260 ((st 16 0) - (1 : Int32))).bind fun v4 => (if v4 = (32 : Int32) then b_M_again_81 st else (fb_pf st 16 ((st 16 0) - (1 : Int32))).bind fun s6 => k29 s6)))
set_option maxHeartbeats 4000000 in
set_option maxRecDepth 100000 in
theorem w_M_again_29 {p : Program} {l : Launch} {e : Env} {s : State} {m : MethodId} {args : Array Value} {below : List Frame} {meth : Method} {c : Code} {A : Nat → Prop} {dC : Nat → ClassId} {dI : Nat → Nat → Nat} {dA : Nat → ClassId} {a : Nat → Nat} (CX : fb_C p s m args meth c kc_M_again none 3 "FileTreeModel" (dC, dI) vcl (tM dA) A zM) (o : Int32 × fb_S) (k29 : fb_S → Option (Int32 × fb_S)) (hk29 : ∀ (st : fb_S), k29 st = some o → fb_G p l e (headSpec kw_M_again rm_M_again).room s m args below meth c (dC, dI) vcl (tM dA) (wM dA a) A none o.2 29 3 [(0, .ref (a 0))] [] st) (st : fb_S) (hF : b_M_again_29 k29 st = some o) : fb_G p l e (headSpec kw_M_again rm_M_again).room s m args below meth c (dC, dI) vcl (tM dA) (wM dA a) A none o.2 29 3 [(0, .ref (a 0))] [] st := by
  intro H locs hP hD hS ls hl
  obtain ⟨hx, hb, hr, hml, hown, hts, hK, hA, hlocks, hZ⟩ := id CX
  unfold b_M_again_29 at hF
  refine lv_aload_n hx hb kd_M_again_29 rfl (lv_at hl 0 rfl) ?_
  refine va_get (D := (dC, dI)) (ci := 5) (v := .int (st 16 0)) (C := "FileTreeModel") (T := ft_M) (N := 18) hx hb hts fi_M hown hK hP 0 rfl rfl 15 (by decide) (hts _ q_484) (fun _ h9 => h9) rfl kd_M_again_30 ?_
  refine lv_if_le (tgt := 81) hx hb kd_M_again_33 (by decide) (fun c1 => ?_) (fun c1 => ?_)
  · rw [if_pos c1] at hF
    exact w_M_again_81 CX o st hF H locs hP hD hS ls (lv_sub hl [0] rfl)
  · rw [if_neg c1] at hF
    refine lv_aload_n hx hb kd_M_again_36 rfl (lv_at hl 0 rfl) ?_
    refine va_get (D := (dC, dI)) (ci := 5) (v := .ref (a 1)) (C := "FileTreeModel") (T := ft_M) (N := 18) hx hb hts fi_M hown hK hP 0 rfl rfl 2 (by decide) (hts _ q_471) (fun _ h9 => h9) rfl kd_M_again_37 ?_
    refine lv_aload_n hx hb kd_M_again_40 rfl (lv_at hl 0 rfl) ?_
    refine va_get (D := (dC, dI)) (ci := 5) (v := .int (st 16 0)) (C := "FileTreeModel") (T := ft_M) (N := 18) hx hb hts fi_M hown hK hP 0 rfl rfl 15 (by decide) (hts _ q_484) (fun _ h9 => h9) rfl kd_M_again_41 ?_
    refine lv_iconst (v := 1) hx hb kd_M_again_44 (by decide) ?_
    refine lv_isub hx hb kd_M_again_45 ?_
    obtain ⟨v2, e_v2, hF⟩ := fb_ob hF
    refine fb_bald hx hb hK hP 1 1 rfl rfl e_v2 kd_M_again_46 ?_
    refine lv_bipush (v := 47) hx hb kd_M_again_47 (by decide) ?_
    refine lv_icmp_eq (tgt := 81) hx hb kd_M_again_49 (by decide) (fun c3 => ?_) (fun c3 => ?_)
    · rw [if_pos c3] at hF
      exact w_M_again_81 CX o st hF H locs hP hD hS ls (lv_sub hl [0] rfl)
    · rw [if_neg c3] at hF
      refine lv_aload_n hx hb kd_M_again_52 rfl (lv_at hl 0 rfl) ?_
      refine va_get (D := (dC, dI)) (ci := 5) (v := .ref (a 1)) (C := "FileTreeModel") (T := ft_M) (N := 18) hx hb hts fi_M hown hK hP 0 rfl rfl 2 (by decide) (hts _ q_471) (fun _ h9 => h9) rfl kd_M_again_53 ?_
      refine lv_aload_n hx hb kd_M_again_56 rfl (lv_at hl 0 rfl) ?_
      refine va_get (D := (dC, dI)) (ci := 5) (v := .int (st 16 0)) (C := "FileTreeModel") (T := ft_M) (N := 18) hx hb hts fi_M hown hK hP 0 rfl rfl 15 (by decide) (hts _ q_484) (fun _ h9 => h9) rfl kd_M_again_57 ?_
      refine lv_iconst (v := 1) hx hb kd_M_again_60 (by decide) ?_
      refine lv_isub hx hb kd_M_again_61 ?_
      obtain ⟨v4, e_v4, hF⟩ := fb_ob hF
      refine fb_bald hx hb hK hP 1 1 rfl rfl e_v4 kd_M_again_62 ?_
      refine lv_bipush (v := 32) hx hb kd_M_again_63 (by decide) ?_
      refine lv_icmp_eq (tgt := 81) hx hb kd_M_again_65 (by decide) (fun c5 => ?_) (fun c5 => ?_)
      · rw [if_pos c5] at hF
        exact w_M_again_81 CX o st hF H locs hP hD hS ls (lv_sub hl [0] rfl)
      · rw [if_neg c5] at hF
        refine lv_aload_n hx hb kd_M_again_68 rfl (lv_at hl 0 rfl) ?_
        refine lv_dup hx hb kd_M_again_69 rfl ?_
        refine va_get (D := (dC, dI)) (ci := 5) (v := .int (st 16 0)) (C := "FileTreeModel") (T := ft_M) (N := 18) hx hb hts fi_M hown hK hP 0 rfl rfl 15 (by decide) (hts _ q_484) (fun _ h9 => h9) rfl kd_M_again_70 ?_
        refine lv_iconst (v := 1) hx hb kd_M_again_73 (by decide) ?_
        refine lv_isub hx hb kd_M_again_74 ?_
        obtain ⟨s6, e_s6, hF⟩ := fb_ob hF
        refine va_put (D := (dC, dI)) (ci := 5) (v := .int ((st 16 0) - (1 : Int32))) (ty := .int) (C := "FileTreeModel") (T := ft_M) (N := 18) hx hb hts fi_M fy_M fo_M fn_M hown hK hP hD hS 0 rfl rfl 15 (by decide) (hts _ q_484) (fun _ h9 => h9) rfl (by decide +kernel) rfl rfl (Nat.le_of_ble_eq_true rfl) kd_M_again_75 (fun H locs hP hD hS => ?_)
        cases e_s6
        obtain ⟨s6, e_s6⟩ : ∃ z : fb_S, z = va_up st 16 (upd (st 16) 0 ((st 16 0) - (1 : Int32))) := ⟨_, rfl⟩
        rw [← e_s6] at hF
        have hP : va_P (dC, dI) vcl ((wM dA a) s6) H := by rw [e_s6]; exact hP
        have hD : va_D A ((wM dA a) s6) := by rw [e_s6]; exact hD
        refine lv_goto (tgt := 29) hx hb kd_M_again_78 (by decide) ?_
        exact hk29 s6 hF H locs hP hD hS ls (lv_sub hl [0] rfl)
def l_M_again_29 : Nat → fb_S → Option (Int32 × fb_S)
  | 0 => fun _ => none
  | n + 1 => b_M_again_29 (l_M_again_29 n)
theorem v_M_again_29 {p : Program} {l : Launch} {e : Env} {s : State} {m : MethodId} {args : Array Value} {below : List Frame} {meth : Method} {c : Code} {A : Nat → Prop} {dC : Nat → ClassId} {dI : Nat → Nat → Nat} {dA : Nat → ClassId} {a : Nat → Nat} (CX : fb_C p s m args meth c kc_M_again none 3 "FileTreeModel" (dC, dI) vcl (tM dA) A zM) (o : Int32 × fb_S) (n : Nat) : ∀ (st : fb_S), l_M_again_29 n st = some o → fb_G p l e (headSpec kw_M_again rm_M_again).room s m args below meth c (dC, dI) vcl (tM dA) (wM dA a) A none o.2 29 3 [(0, .ref (a 0))] [] st := by
  induction n with
  | zero => intro st hF; cases hF
  | succ n ih => intro st hF; exact w_M_again_29 CX o (l_M_again_29 n) ih st hF
def b_M_again_5 (k5 : Int32 → fb_S → Option (Int32 × fb_S)) (x1 : Int32) (st : fb_S) : Option (Int32 × fb_S) := (fb_ld (st 0) 260 (x1 - (1 : Int32))).bind fun v1 => (if v1 = (47 : Int32) then k5 (x1 + (-1 : Int32)) st else (fb_pf st 16 x1).bind fun s3 => l_M_again_29 fb_n s3)
set_option maxHeartbeats 4000000 in
set_option maxRecDepth 100000 in
theorem w_M_again_5 {p : Program} {l : Launch} {e : Env} {s : State} {m : MethodId} {args : Array Value} {below : List Frame} {meth : Method} {c : Code} {A : Nat → Prop} {dC : Nat → ClassId} {dI : Nat → Nat → Nat} {dA : Nat → ClassId} {a : Nat → Nat} (CX : fb_C p s m args meth c kc_M_again none 3 "FileTreeModel" (dC, dI) vcl (tM dA) A zM) (o : Int32 × fb_S) (k5 : Int32 → fb_S → Option (Int32 × fb_S)) (hk5 : ∀ (x1 : Int32) (st : fb_S), k5 x1 st = some o → fb_G p l e (headSpec kw_M_again rm_M_again).room s m args below meth c (dC, dI) vcl (tM dA) (wM dA a) A none o.2 5 3 [(0, .ref (a 0)), (1, .int x1)] [] st) (x1 : Int32) (st : fb_S) (hF : b_M_again_5 k5 x1 st = some o) : fb_G p l e (headSpec kw_M_again rm_M_again).room s m args below meth c (dC, dI) vcl (tM dA) (wM dA a) A none o.2 5 3 [(0, .ref (a 0)), (1, .int x1)] [] st := by
  intro H locs hP hD hS ls hl
  obtain ⟨hx, hb, hr, hml, hown, hts, hK, hA, hlocks, hZ⟩ := id CX
  unfold b_M_again_5 at hF
  refine lv_aload_n hx hb kd_M_again_5 rfl (lv_at hl 0 rfl) ?_
  refine va_get (D := (dC, dI)) (ci := 5) (v := .ref (a 1)) (C := "FileTreeModel") (T := ft_M) (N := 18) hx hb hts fi_M hown hK hP 0 rfl rfl 2 (by decide) (hts _ q_471) (fun _ h9 => h9) rfl kd_M_again_6 ?_
  refine lv_iload_n hx hb kd_M_again_9 rfl (lv_at hl 1 rfl) ?_
  refine lv_iconst (v := 1) hx hb kd_M_again_10 (by decide) ?_
  refine lv_isub hx hb kd_M_again_11 ?_
  obtain ⟨v1, e_v1, hF⟩ := fb_ob hF
  refine fb_bald hx hb hK hP 1 1 rfl rfl e_v1 kd_M_again_12 ?_
  refine lv_bipush (v := 47) hx hb kd_M_again_13 (by decide) ?_
  refine lv_icmp_ne (tgt := 24) hx hb kd_M_again_15 (by decide) (fun c2 => ?_) (fun c2 => ?_)
  · rw [if_neg c2] at hF
    refine lv_aload_n hx hb kd_M_again_24 rfl (lv_at hl 0 rfl) ?_
    refine lv_iload_n hx hb kd_M_again_25 rfl (lv_at hl 1 rfl) ?_
    obtain ⟨s3, e_s3, hF⟩ := fb_ob hF
    refine va_put (D := (dC, dI)) (ci := 5) (v := .int x1) (ty := .int) (C := "FileTreeModel") (T := ft_M) (N := 18) hx hb hts fi_M fy_M fo_M fn_M hown hK hP hD hS 0 rfl rfl 15 (by decide) (hts _ q_484) (fun _ h9 => h9) rfl (by decide +kernel) rfl rfl (Nat.le_of_ble_eq_true rfl) kd_M_again_26 (fun H locs hP hD hS => ?_)
    cases e_s3
    obtain ⟨s3, e_s3⟩ : ∃ z : fb_S, z = va_up st 16 (upd (st 16) 0 x1) := ⟨_, rfl⟩
    rw [← e_s3] at hF
    have hP : va_P (dC, dI) vcl ((wM dA a) s3) H := by rw [e_s3]; exact hP
    have hD : va_D A ((wM dA a) s3) := by rw [e_s3]; exact hD
    exact v_M_again_29 CX o fb_n s3 hF H locs hP hD hS ls (lv_sub hl [0] rfl)
  · rw [if_pos c2] at hF
    refine lv_iinc (v := x1 + (-1 : Int32)) (lv' := [(1, .int (x1 + (-1 : Int32))), (0, .ref (a 0))]) hx hb kd_M_again_18 hl (k := 1) rfl rfl (by decide) rfl (fun ls hl => ?_)
    refine lv_goto (tgt := 5) hx hb kd_M_again_21 (by decide) ?_
    exact hk5 (x1 + (-1 : Int32)) st hF H locs hP hD hS ls (lv_sub hl [1, 0] rfl)
def l_M_again_5 : Nat → Int32 → fb_S → Option (Int32 × fb_S)
  | 0 => fun _ _ => none
  | n + 1 => b_M_again_5 (l_M_again_5 n)
theorem v_M_again_5 {p : Program} {l : Launch} {e : Env} {s : State} {m : MethodId} {args : Array Value} {below : List Frame} {meth : Method} {c : Code} {A : Nat → Prop} {dC : Nat → ClassId} {dI : Nat → Nat → Nat} {dA : Nat → ClassId} {a : Nat → Nat} (CX : fb_C p s m args meth c kc_M_again none 3 "FileTreeModel" (dC, dI) vcl (tM dA) A zM) (o : Int32 × fb_S) (n : Nat) : ∀ (x1 : Int32) (st : fb_S), l_M_again_5 n x1 st = some o → fb_G p l e (headSpec kw_M_again rm_M_again).room s m args below meth c (dC, dI) vcl (tM dA) (wM dA a) A none o.2 5 3 [(0, .ref (a 0)), (1, .int x1)] [] st := by
  induction n with
  | zero => intro x1 st hF; cases hF
  | succ n ih => intro x1 st hF; exact w_M_again_5 CX o (l_M_again_5 n) ih x1 st hF
def f_M_again (st : fb_S) : Option (Int32 × fb_S) := l_M_again_5 fb_n (st 17 0) st
set_option maxHeartbeats 4000000 in
set_option maxRecDepth 100000 in
theorem w_M_again_0 {p : Program} {l : Launch} {e : Env} {s : State} {m : MethodId} {args : Array Value} {below : List Frame} {meth : Method} {c : Code} {A : Nat → Prop} {dC : Nat → ClassId} {dI : Nat → Nat → Nat} {dA : Nat → ClassId} {a : Nat → Nat} (CX : fb_C p s m args meth c kc_M_again none 3 "FileTreeModel" (dC, dI) vcl (tM dA) A zM) (o : Int32 × fb_S) (st : fb_S) (hF : f_M_again st = some o) : fb_G p l e (headSpec kw_M_again rm_M_again).room s m args below meth c (dC, dI) vcl (tM dA) (wM dA a) A none o.2 0 3 [(0, .ref (a 0))] [] st := by
  intro H locs hP hD hS ls hl
  obtain ⟨hx, hb, hr, hml, hown, hts, hK, hA, hlocks, hZ⟩ := id CX
  unfold f_M_again at hF
  refine lv_aload_n hx hb kd_M_again_0 rfl (lv_at hl 0 rfl) ?_
  refine va_get (D := (dC, dI)) (ci := 5) (v := .int (st 17 0)) (C := "FileTreeModel") (T := ft_M) (N := 18) hx hb hts fi_M hown hK hP 0 rfl rfl 16 (by decide) (hts _ q_485) (fun _ h9 => h9) rfl kd_M_again_1 ?_
  refine lv_istore_n (lv' := [(1, .int (st 17 0)), (0, .ref (a 0))]) hx hb kd_M_again_4 rfl hl (by decide) rfl (fun ls hl => ?_)
  exact v_M_again_5 CX o fb_n (st 17 0) st hF H locs hP hD hS ls (lv_sub hl [1, 0] rfl)
theorem c_M_again (l : Launch) (dC : Nat → ClassId) (dI : Nat → Nat → Nat) (dA : Nat → ClassId) (a : Nat → Nat) (st : fb_S) (o : Int32 × fb_S) (h : f_M_again st = some o) : fb_M l ky_M_again kw_M_again rm_M_again (dC, dI) vcl (tM dA) (wM dA a) zM [.ref (a 0)] none st o.2 := fb_enter (by decide) rfl (Nat.le_of_ble_eq_true rfl) (fun p e s m below meth c A CX hP hD hS ls hl => w_M_again_0 CX o st h s.heap [] hP hD hS ls hl)
