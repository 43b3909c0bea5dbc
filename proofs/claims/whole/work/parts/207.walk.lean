abbrev rm_M_clear : Room := { frames := 2, cells := 0, slots := 0, locals := 41 }
def f_M_clear (x1 : Int32) (st : fb_S) : Option (Int32 × fb_S) := (fb_pf st 14 (0 : Int32)).bind fun s1 => (f_M_there x1 s1).bind fun r2 => (if r2.1 = (0 : Int32) then fb_rz (0 : Int32) r2.2 else (fb_ld (r2.2 4) 64 x1).bind fun v4 => (if v4 = (2 : Int32) then (f_M_empty x1 r2.2).bind fun r6 => fb_rz (1 : Int32) r6.2 else fb_rz (0 : Int32) r2.2))
set_option maxHeartbeats 4000000 in
set_option maxRecDepth 100000 in
theorem w_M_clear_0 {p : Program} {l : Launch} {e : Env} {s : State} {m : MethodId} {args : Array Value} {below : List Frame} {meth : Method} {c : Code} {A : Nat → Prop} {dC : Nat → ClassId} {dI : Nat → Nat → Nat} {dA : Nat → ClassId} {a : Nat → Nat} (CX : fb_C p s m args meth c kc_M_clear (some .boolean) 2 "FileTreeModel" (dC, dI) vcl (tM dA) A zM) (o : Int32 × fb_S) (x1 : Int32) (st : fb_S) (hF : f_M_clear x1 st = some o) : fb_G p l e (headSpec kw_M_clear rm_M_clear).room s m args below meth c (dC, dI) vcl (tM dA) (wM dA a) A (some (.int o.1)) o.2 0 2 [(0, .ref (a 0)), (1, .int x1)] [] st := by
  intro H locs hP hD hS ls hl
  obtain ⟨hx, hb, hr, hml, hown, hts, hK, hA, hlocks, hZ⟩ := id CX
  unfold f_M_clear at hF
  refine lv_aload_n hx hb kd_M_clear_0 rfl (lv_at hl 0 rfl) ?_
  refine lv_iconst (v := 0) hx hb kd_M_clear_1 (by decide) ?_
  obtain ⟨s1, e_s1, hF⟩ := fb_ob hF
  refine va_put (D := (dC, dI)) (ci := 5) (v := .int (0 : Int32)) (ty := .int) (C := "FileTreeModel") (T := ft_M) (N := 18) hx hb hts fi_M fy_M fo_M fn_M hown hK hP hD hS 0 rfl rfl 0 (by decide) (hts _ q_469) (fun _ h9 => h9) rfl (by decide +kernel) rfl rfl (Nat.le_of_ble_eq_true rfl) kd_M_clear_2 (fun H locs hP hD hS => ?_)
  cases e_s1
  obtain ⟨s1, e_s1⟩ : ∃ z : fb_S, z = va_up st 14 (upd (st 14) 0 (0 : Int32)) := ⟨_, rfl⟩
  rw [← e_s1] at hF
  have hP : va_P (dC, dI) vcl ((wM dA a) s1) H := by rw [e_s1]; exact hP
  have hD : va_D A ((wM dA a) s1) := by rw [e_s1]; exact hD
  refine lv_aload_n hx hb kd_M_clear_5 rfl (lv_at hl 0 rfl) ?_
  refine lv_iload_n hx hb kd_M_clear_6 rfl (lv_at hl 1 rfl) ?_
  obtain ⟨r2, e_r2, hF⟩ := fb_ob hF
  refine fb_callV (As := [.int x1]) (rest := []) ⟨hx, hb, hml, hown, hts⟩ zM_mv hZ hK hP hD hS hA (c_M_there l dC dI dA a x1 s1 r2 e_r2) (cwV 1 hts (gd_V q_546 ko_M_there) rfl rfl rfl kh_M_there ⟨Nat.le_of_ble_eq_true rfl, Nat.le_of_ble_eq_true rfl⟩) 5 0 rfl rfl rfl rfl hl.1 rfl (Nat.le_of_ble_eq_true rfl) kd_M_clear_7 ⟨Nat.zero_le _, Nat.zero_le _⟩ (fun H locs hP hD hS => ?_)
  refine W.eq (g2 := F0 m 10 ls [.int r2.1]) rfl ?_
  refine lv_if_eq (tgt := 23) hx hb kd_M_clear_10 (by decide) (fun c3 => ?_) (fun c3 => ?_)
  · rw [if_pos c3] at hF
    refine lv_iconst (v := 0) hx hb kd_M_clear_23 (by decide) ?_
    exact fb_rb (o := o) hx hb hr hlocks hK hP hD hS hF kd_M_clear_24
  · rw [if_neg c3] at hF
    refine lv_aload_n hx hb kd_M_clear_13 rfl (lv_at hl 0 rfl) ?_
    refine va_get (D := (dC, dI)) (ci := 5) (v := .ref (a 5)) (C := "FileTreeModel") (T := ft_M) (N := 18) hx hb hts fi_M hown hK hP 0 rfl rfl 6 (by decide) (hts _ q_475) (fun _ h9 => h9) rfl kd_M_clear_14 ?_
    refine lv_iload_n hx hb kd_M_clear_17 rfl (lv_at hl 1 rfl) ?_
    obtain ⟨v4, e_v4, hF⟩ := fb_ob hF
    refine fb_iald hx hb hK hP 5 0 rfl rfl e_v4 kd_M_clear_18 ?_
    refine lv_iconst (v := 2) hx hb kd_M_clear_19 (by decide) ?_
    refine lv_icmp_eq (tgt := 25) hx hb kd_M_clear_20 (by decide) (fun c5 => ?_) (fun c5 => ?_)
    · rw [if_pos c5] at hF
      refine lv_aload_n hx hb kd_M_clear_25 rfl (lv_at hl 0 rfl) ?_
      refine lv_iload_n hx hb kd_M_clear_26 rfl (lv_at hl 1 rfl) ?_
      obtain ⟨r6, e_r6, hF⟩ := fb_ob hF
      refine fb_callV (As := [.int x1]) (rest := []) ⟨hx, hb, hml, hown, hts⟩ zM_mv hZ hK hP hD hS hA (c_M_empty l dC dI dA a x1 r2.2 r6 e_r6) (cwV 1 hts (gd_V q_631 ko_M_empty) rfl rfl rfl kh_M_empty ⟨Nat.le_of_ble_eq_true rfl, Nat.le_of_ble_eq_true rfl⟩) 5 0 rfl rfl rfl rfl hl.1 rfl (Nat.le_of_ble_eq_true rfl) kd_M_clear_27 ⟨Nat.zero_le _, Nat.zero_le _⟩ (fun H locs hP hD hS => ?_)
      refine W.eq (g2 := F0 m 30 ls []) rfl ?_
      refine lv_iconst (v := 1) hx hb kd_M_clear_30 (by decide) ?_
      exact fb_rb (o := o) hx hb hr hlocks hK hP hD hS hF kd_M_clear_31
    · rw [if_neg c5] at hF
      refine lv_iconst (v := 0) hx hb kd_M_clear_23 (by decide) ?_
      exact fb_rb (o := o) hx hb hr hlocks hK hP hD hS hF kd_M_clear_24
theorem c_M_clear (l : Launch) (dC : Nat → ClassId) (dI : Nat → Nat → Nat) (dA : Nat → ClassId) (a : Nat → Nat) (x1 : Int32) (st : fb_S) (o : Int32 × fb_S) (h : f_M_clear x1 st = some o) : fb_M l ky_M_clear kw_M_clear rm_M_clear (dC, dI) vcl (tM dA) (wM dA a) zM [.ref (a 0), .int x1] (some (.int o.1)) st o.2 := fb_enter (by decide) rfl (Nat.le_of_ble_eq_true rfl) (fun p e s m below meth c A CX hP hD hS ls hl => w_M_clear_0 CX o x1 st h s.heap [] hP hD hS ls hl)
abbrev rm_M_about : Room := { frames := 1, cells := 0, slots := 0, locals := 20 }
def f_M_about (x1 : Int32) (x2 : Int32) (st : fb_S) : Option (Int32 × fb_S) := (fb_pf st 14 (0 : Int32)).bind fun s1 => (f_M_isInode x1 s1).bind fun r2 => (if r2.1 = (0 : Int32) then some ((-1 : Int32), r2.2) else (if x2 = (0 : Int32) then (fb_ld (r2.2 4) 64 x1).bind fun v5 => some (v5, r2.2) else if x2 = (1 : Int32) then (fb_ld (r2.2 5) 64 x1).bind fun v6 => some (v6, r2.2) else if x2 = (2 : Int32) then (fb_ld (r2.2 6) 64 x1).bind fun v7 => some (v7, r2.2) else if x2 = (3 : Int32) then (fb_ld (r2.2 7) 64 x1).bind fun v8 => some (v8, r2.2) else if x2 = (4 : Int32) then (fb_ld (r2.2 8) 64 x1).bind fun v9 => some (v9, r2.2) else if x2 = (5 : Int32) then (fb_ld (r2.2 9) 64 x1).bind fun v10 => some (v10, r2.2) else some ((-1 : Int32), r2.2)))
set_option maxHeartbeats 4000000 in
set_option maxRecDepth 100000 in
theorem w_M_about_0 {p : Program} {l : Launch} {e : Env} {s : State} {m : MethodId} {args : Array Value} {below : List Frame} {meth : Method} {c : Code} {A : Nat → Prop} {dC : Nat → ClassId} {dI : Nat → Nat → Nat} {dA : Nat → ClassId} {a : Nat → Nat} (CX : fb_C p s m args meth c kc_M_about (some .int) 3 "FileTreeModel" (dC, dI) vcl (tM dA) A zM) (o : Int32 × fb_S) (x1 : Int32) (x2 : Int32) (st : fb_S) (hF : f_M_about x1 x2 st = some o) : fb_G p l e (headSpec kw_M_about rm_M_about).room s m args below meth c (dC, dI) vcl (tM dA) (wM dA a) A (some (.int o.1)) o.2 0 3 [(0, .ref (a 0)), (1, .int x1), (2, .int x2)] [] st := by
  intro H locs hP hD hS ls hl
  obtain ⟨hx, hb, hr, hml, hown, hts, hK, hA, hlocks, hZ⟩ := id CX
  unfold f_M_about at hF
  refine lv_aload_n hx hb kd_M_about_0 rfl (lv_at hl 0 rfl) ?_
  refine lv_iconst (v := 0) hx hb kd_M_about_1 (by decide) ?_
  obtain ⟨s1, e_s1, hF⟩ := fb_ob hF
  refine va_put (D := (dC, dI)) (ci := 5) (v := .int (0 : Int32)) (ty := .int) (C := "FileTreeModel") (T := ft_M) (N := 18) hx hb hts fi_M fy_M fo_M fn_M hown hK hP hD hS 0 rfl rfl 0 (by decide) (hts _ q_469) (fun _ h9 => h9) rfl (by decide +kernel) rfl rfl (Nat.le_of_ble_eq_true rfl) kd_M_about_2 (fun H locs hP hD hS => ?_)
  cases e_s1
  obtain ⟨s1, e_s1⟩ : ∃ z : fb_S, z = va_up st 14 (upd (st 14) 0 (0 : Int32)) := ⟨_, rfl⟩
  rw [← e_s1] at hF
  have hP : va_P (dC, dI) vcl ((wM dA a) s1) H := by rw [e_s1]; exact hP
  have hD : va_D A ((wM dA a) s1) := by rw [e_s1]; exact hD
  refine lv_iload_n hx hb kd_M_about_5 rfl (lv_at hl 1 rfl) ?_
  obtain ⟨r2, e_r2, hF⟩ := fb_ob hF
  refine fb_callS (As := [.int x1]) (rest := []) ⟨hx, hb, hml, hown, hts⟩ zM_mv hZ hK hP hD hS hA (c_M_isInode l dC dI dA a x1 s1 r2 e_r2) (va_cwS 1 hts (gd_S q_550 ko_M_isInode) rfl rfl rfl kh_M_isInode ⟨Nat.le_of_ble_eq_true rfl, Nat.le_of_ble_eq_true rfl⟩) rfl hl.1 rfl (Nat.le_of_ble_eq_true rfl) kd_M_about_6 ⟨Nat.zero_le _, Nat.zero_le _⟩ (fun H locs hP hD hS => ?_)
  refine W.eq (g2 := F0 m 9 ls [.int r2.1]) rfl ?_
  refine lv_if_ne (tgt := 14) hx hb kd_M_about_9 (by decide) (fun c3 => ?_) (fun c3 => ?_)
  · rw [if_neg c3] at hF
    refine lv_iload_n hx hb kd_M_about_14 rfl (lv_at hl 2 rfl) ?_
    by_cases c4_0 : x2 = 0
    · rw [if_pos c4_0] at hF
      refine lv_tableIn (tgt := 52) hx hb kd_M_about_15 (by rw [c4_0]; decide) (by rw [c4_0]; decide) (by rw [c4_0]; rfl) (by decide) ?_
      refine lv_aload_n hx hb kd_M_about_52 rfl (lv_at hl 0 rfl) ?_
      refine va_get (D := (dC, dI)) (ci := 5) (v := .ref (a 5)) (C := "FileTreeModel") (T := ft_M) (N := 18) hx hb hts fi_M hown hK hP 0 rfl rfl 6 (by decide) (hts _ q_475) (fun _ h9 => h9) rfl kd_M_about_53 ?_
      refine lv_iload_n hx hb kd_M_about_56 rfl (lv_at hl 1 rfl) ?_
      obtain ⟨v5, e_v5, hF⟩ := fb_ob hF
      refine fb_iald hx hb hK hP 5 0 rfl rfl e_v5 kd_M_about_57 ?_
      exact fb_ri (o := o) hx hb hr hlocks hK hP hD hS hF kd_M_about_58
    · rw [if_neg c4_0] at hF
      by_cases c4_1 : x2 = 1
      · rw [if_pos c4_1] at hF
        refine lv_tableIn (tgt := 59) hx hb kd_M_about_15 (by rw [c4_1]; decide) (by rw [c4_1]; decide) (by rw [c4_1]; rfl) (by decide) ?_
        refine lv_aload_n hx hb kd_M_about_59 rfl (lv_at hl 0 rfl) ?_
        refine va_get (D := (dC, dI)) (ci := 5) (v := .ref (a 6)) (C := "FileTreeModel") (T := ft_M) (N := 18) hx hb hts fi_M hown hK hP 0 rfl rfl 7 (by decide) (hts _ q_476) (fun _ h9 => h9) rfl kd_M_about_60 ?_
        refine lv_iload_n hx hb kd_M_about_63 rfl (lv_at hl 1 rfl) ?_
        obtain ⟨v6, e_v6, hF⟩ := fb_ob hF
        refine fb_iald hx hb hK hP 6 0 rfl rfl e_v6 kd_M_about_64 ?_
        exact fb_ri (o := o) hx hb hr hlocks hK hP hD hS hF kd_M_about_65
      · rw [if_neg c4_1] at hF
        by_cases c4_2 : x2 = 2
        · rw [if_pos c4_2] at hF
          refine lv_tableIn (tgt := 66) hx hb kd_M_about_15 (by rw [c4_2]; decide) (by rw [c4_2]; decide) (by rw [c4_2]; rfl) (by decide) ?_
          refine lv_aload_n hx hb kd_M_about_66 rfl (lv_at hl 0 rfl) ?_
          refine va_get (D := (dC, dI)) (ci := 5) (v := .ref (a 7)) (C := "FileTreeModel") (T := ft_M) (N := 18) hx hb hts fi_M hown hK hP 0 rfl rfl 8 (by decide) (hts _ q_477) (fun _ h9 => h9) rfl kd_M_about_67 ?_
          refine lv_iload_n hx hb kd_M_about_70 rfl (lv_at hl 1 rfl) ?_
          obtain ⟨v7, e_v7, hF⟩ := fb_ob hF
          refine fb_iald hx hb hK hP 7 0 rfl rfl e_v7 kd_M_about_71 ?_
          exact fb_ri (o := o) hx hb hr hlocks hK hP hD hS hF kd_M_about_72
        · rw [if_neg c4_2] at hF
          by_cases c4_3 : x2 = 3
          · rw [if_pos c4_3] at hF
            refine lv_tableIn (tgt := 73) hx hb kd_M_about_15 (by rw [c4_3]; decide) (by rw [c4_3]; decide) (by rw [c4_3]; rfl) (by decide) ?_
            refine lv_aload_n hx hb kd_M_about_73 rfl (lv_at hl 0 rfl) ?_
            refine va_get (D := (dC, dI)) (ci := 5) (v := .ref (a 8)) (C := "FileTreeModel") (T := ft_M) (N := 18) hx hb hts fi_M hown hK hP 0 rfl rfl 9 (by decide) (hts _ q_478) (fun _ h9 => h9) rfl kd_M_about_74 ?_
            refine lv_iload_n hx hb kd_M_about_77 rfl (lv_at hl 1 rfl) ?_
            obtain ⟨v8, e_v8, hF⟩ := fb_ob hF
            refine fb_iald hx hb hK hP 8 0 rfl rfl e_v8 kd_M_about_78 ?_
            exact fb_ri (o := o) hx hb hr hlocks hK hP hD hS hF kd_M_about_79
          · rw [if_neg c4_3] at hF
            by_cases c4_4 : x2 = 4
            · rw [if_pos c4_4] at hF
              refine lv_tableIn (tgt := 80) hx hb kd_M_about_15 (by rw [c4_4]; decide) (by rw [c4_4]; decide) (by rw [c4_4]; rfl) (by decide) ?_
              refine lv_aload_n hx hb kd_M_about_80 rfl (lv_at hl 0 rfl) ?_
              refine va_get (D := (dC, dI)) (ci := 5) (v := .ref (a 9)) (C := "FileTreeModel") (T := ft_M) (N := 18) hx hb hts fi_M hown hK hP 0 rfl rfl 10 (by decide) (hts _ q_479) (fun _ h9 => h9) rfl kd_M_about_81 ?_
              refine lv_iload_n hx hb kd_M_about_84 rfl (lv_at hl 1 rfl) ?_
              obtain ⟨v9, e_v9, hF⟩ := fb_ob hF
              refine fb_iald hx hb hK hP 9 0 rfl rfl e_v9 kd_M_about_85 ?_
              exact fb_ri (o := o) hx hb hr hlocks hK hP hD hS hF kd_M_about_86
            · rw [if_neg c4_4] at hF
              by_cases c4_5 : x2 = 5
              · rw [if_pos c4_5] at hF
                refine lv_tableIn (tgt := 87) hx hb kd_M_about_15 (by rw [c4_5]; decide) (by rw [c4_5]; decide) (by rw [c4_5]; rfl) (by decide) ?_
                refine lv_aload_n hx hb kd_M_about_87 rfl (lv_at hl 0 rfl) ?_
                refine va_get (D := (dC, dI)) (ci := 5) (v := .ref (a 10)) (C := "FileTreeModel") (T := ft_M) (N := 18) hx hb hts fi_M hown hK hP 0 rfl rfl 11 (by decide) (hts _ q_480) (fun _ h9 => h9) rfl kd_M_about_88 ?_
                refine lv_iload_n hx hb kd_M_about_91 rfl (lv_at hl 1 rfl) ?_
                obtain ⟨v10, e_v10, hF⟩ := fb_ob hF
                refine fb_iald hx hb hK hP 10 0 rfl rfl e_v10 kd_M_about_92 ?_
                exact fb_ri (o := o) hx hb hr hlocks hK hP hD hS hF kd_M_about_93
              · rw [if_neg c4_5] at hF
                have n4_0 := lv_neT c4_0 (k := 0) (a := 0) (by decide)
                have n4_1 := lv_neT c4_1 (k := 1) (a := 1) (by decide)
                have n4_2 := lv_neT c4_2 (k := 2) (a := 2) (by decide)
                have n4_3 := lv_neT c4_3 (k := 3) (a := 3) (by decide)
                have n4_4 := lv_neT c4_4 (k := 4) (a := 4) (by decide)
                have n4_5 := lv_neT c4_5 (k := 5) (a := 5) (by decide)
                refine lv_tableOut (tgt := 94) hx hb kd_M_about_15 (by omega) (by decide) ?_
                refine lv_iconst (v := (-1)) hx hb kd_M_about_94 (by decide) ?_
                exact fb_ri (o := o) hx hb hr hlocks hK hP hD hS hF kd_M_about_95
  · rw [if_pos c3] at hF
    refine lv_iconst (v := (-1)) hx hb kd_M_about_12 (by decide) ?_
    exact fb_ri (o := o) hx hb hr hlocks hK hP hD hS hF kd_M_about_13
theorem c_M_about (l : Launch) (dC : Nat → ClassId) (dI : Nat → Nat → Nat) (dA : Nat → ClassId) (a : Nat → Nat) (x1 : Int32) (x2 : Int32) (st : fb_S) (o : Int32 × fb_S) (h : f_M_about x1 x2 st = some o) : fb_M l ky_M_about kw_M_about rm_M_about (dC, dI) vcl (tM dA) (wM dA a) zM [.ref (a 0), .int x1, .int x2] (some (.int o.1)) st o.2 := fb_enter (by decide) rfl (Nat.le_of_ble_eq_true rfl) (fun p e s m below meth c A CX hP hD hS ls hl => w_M_about_0 CX o x1 x2 st h s.heap [] hP hD hS ls hl)
abbrev rm_M_free : Room := { frames := 1, cells := 0, slots := 0, locals := 22 }
def f_M_free (st : fb_S) : Option (Int32 × fb_S) := (fb_pf st 14 (0 : Int32)).bind fun s1 => (f_M_left s1).bind fun r2 => some (r2.1, r2.2)
set_option maxHeartbeats 4000000 in
set_option maxRecDepth 100000 in
theorem w_M_free_0 {p : Program} {l : Launch} {e : Env} {s : State} {m : MethodId} {args : Array Value} {below : List Frame} {meth : Method} {c : Code} {A : Nat → Prop} {dC : Nat → ClassId} {dI : Nat → Nat → Nat} {dA : Nat → ClassId} {a : Nat → Nat} (CX : fb_C p s m args meth c kc_M_free (some .int) 1 "FileTreeModel" (dC, dI) vcl (tM dA) A zM) (o : Int32 × fb_S) (st : fb_S) (hF : f_M_free st = some o) : fb_G p l e (headSpec kw_M_free rm_M_free).room s m args below meth c (dC, dI) vcl (tM dA) (wM dA a) A (some (.int o.1)) o.2 0 1 [(0, .ref (a 0))] [] st := by
  intro H locs hP hD hS ls hl
  obtain ⟨hx, hb, hr, hml, hown, hts, hK, hA, hlocks, hZ⟩ := id CX
  unfold f_M_free at hF
  refine lv_aload_n hx hb kd_M_free_0 rfl (lv_at hl 0 rfl) ?_
  refine lv_iconst (v := 0) hx hb kd_M_free_1 (by decide) ?_
  obtain ⟨s1, e_s1, hF⟩ := fb_ob hF
  refine va_put (D := (dC, dI)) (ci := 5) (v := .int (0 : Int32)) (ty := .int) (C := "FileTreeModel") (T := ft_M) (N := 18) hx hb hts fi_M fy_M fo_M fn_M hown hK hP hD hS 0 rfl rfl 0 (by decide) (hts _ q_469) (fun _ h9 => h9) rfl (by decide +kernel) rfl rfl (Nat.le_of_ble_eq_true rfl) kd_M_free_2 (fun H locs hP hD hS => ?_)
  cases e_s1
  obtain ⟨s1, e_s1⟩ : ∃ z : fb_S, z = va_up st 14 (upd (st 14) 0 (0 : Int32)) := ⟨_, rfl⟩
  rw [← e_s1] at hF
  have hP : va_P (dC, dI) vcl ((wM dA a) s1) H := by rw [e_s1]; exact hP
  have hD : va_D A ((wM dA a) s1) := by rw [e_s1]; exact hD
  refine lv_aload_n hx hb kd_M_free_5 rfl (lv_at hl 0 rfl) ?_
  obtain ⟨r2, e_r2, hF⟩ := fb_ob hF
  refine fb_callV (As := []) (rest := []) ⟨hx, hb, hml, hown, hts⟩ zM_mv hZ hK hP hD hS hA (c_M_left l dC dI dA a s1 r2 e_r2) (cwV 0 hts (gd_V q_594 ko_M_left) rfl rfl rfl kh_M_left ⟨Nat.le_of_ble_eq_true rfl, Nat.le_of_ble_eq_true rfl⟩) 5 0 rfl rfl rfl rfl hl.1 rfl (Nat.le_of_ble_eq_true rfl) kd_M_free_6 ⟨Nat.zero_le _, Nat.zero_le _⟩ (fun H locs hP hD hS => ?_)
  refine W.eq (g2 := F0 m 9 ls [.int r2.1]) rfl ?_
  exact fb_ri (o := o) hx hb hr hlocks hK hP hD hS hF kd_M_free_9
theorem c_M_free (l : Launch) (dC : Nat → ClassId) (dI : Nat → Nat → Nat) (dA : Nat → ClassId) (a : Nat → Nat) (st : fb_S) (o : Int32 × fb_S) (h : f_M_free st = some o) : fb_M l ky_M_free kw_M_free rm_M_free (dC, dI) vcl (tM dA) (wM dA a) zM [.ref (a 0)] (some (.int o.1)) st o.2 := fb_enter (by decide) rfl (Nat.le_of_ble_eq_true rfl) (fun p e s m below meth c A CX hP hD hS ls hl => w_M_free_0 CX o st h s.heap [] hP hD hS ls hl)
abbrev rm_M_forget : Room := { frames := 2, cells := 0, slots := 0, locals := 43 }
def b_M_forget_36 (k9 : Int32 → Int32 → fb_S → Option (Int32 × fb_S)) (x2 : Int32) (y0 : Int32) (y1 : Int32) (st : fb_S) : Option (Int32 × fb_S) := k9 (y1 + y0) (x2 + (1 : Int32)) st
set_option maxHeartbeats 4000000 in
set_option maxRecDepth 100000 in
theorem w_M_forget_36 {p : Program} {l : Launch} {e : Env} {s : State} {m : MethodId} {args : Array Value} {below : List Frame} {meth : Method} {c : Code} {A : Nat → Prop} {dC : Nat → ClassId} {dI : Nat → Nat → Nat} {dA : Nat → ClassId} {a : Nat → Nat} (CX : fb_C p s m args meth c kc_M_forget (some .int) 3 "FileTreeModel" (dC, dI) vcl (tM dA) A zM) (o : Int32 × fb_S) (k9 : Int32 → Int32 → fb_S → Option (Int32 × fb_S)) (hk9 : ∀ (x1 : Int32) (x2 : Int32) (st : fb_S), k9 x1 x2 st = some o → fb_G p l e (headSpec kw_M_forget rm_M_forget).room s m args below meth c (dC, dI) vcl (tM dA) (wM dA a) A (some (.int o.1)) o.2 9 3 [(0, .ref (a 0)), (1, .int x1), (2, .int x2)] [] st) (x2 : Int32) (y0 : Int32) (y1 : Int32) (st : fb_S) (hF : b_M_forget_36 k9 x2 y0 y1 st = some o) : fb_G p l e (headSpec kw_M_forget rm_M_forget).room s m args below meth c (dC, dI) vcl (tM dA) (wM dA a) A (some (.int o.1)) o.2 36 3 [(0, .ref (a 0)), (2, .int x2)] [.int y0, .int y1] st := by
  intro H locs hP hD hS ls hl
  obtain ⟨hx, hb, hr, hml, hown, hts, hK, hA, hlocks, hZ⟩ := id CX
  unfold b_M_forget_36 at hF
  refine lv_iadd hx hb kd_M_forget_36 ?_
  refine lv_istore_n (lv' := [(1, .int (y1 + y0)), (0, .ref (a 0)), (2, .int x2)]) hx hb kd_M_forget_37 rfl hl (by decide) rfl (fun ls hl => ?_)
  refine lv_iinc (v := x2 + (1 : Int32)) (lv' := [(2, .int (x2 + (1 : Int32))), (1, .int (y1 + y0)), (0, .ref (a 0))]) hx hb kd_M_forget_38 hl (k := 2) rfl rfl (by decide) rfl (fun ls hl => ?_)
  refine lv_goto (tgt := 9) hx hb kd_M_forget_41 (by decide) ?_
  exact hk9 (y1 + y0) (x2 + (1 : Int32)) st hF H locs hP hD hS ls (lv_sub hl [2, 1, 0] rfl)
def b_M_forget_9 (k9 : Int32 → Int32 → fb_S → Option (Int32 × fb_S)) (x1 : Int32) (x2 : Int32) (st : fb_S) : Option (Int32 × fb_S) := (if (64 : Int32) ≤ x2 then some (x1, st) else (fb_st st 9 64 x2 (0 : Int32)).bind fun s2 => (f_M_ends x2 s2).bind fun r3 => (if r3.1 = (0 : Int32) then b_M_forget_36 k9 x2 (0 : Int32) x1 r3.2 else b_M_forget_36 k9 x2 (1 : Int32) x1 r3.2))
set_option maxHeartbeats 4000000 in
set_option maxRecDepth 100000 in
theorem w_M_forget_9 {p : Program} {l : Launch} {e : Env} {s : State} {m : MethodId} {args : Array Value} {below : List Frame} {meth : Method} {c : Code} {A : Nat → Prop} {dC : Nat → ClassId} {dI : Nat → Nat → Nat} {dA : Nat → ClassId} {a : Nat → Nat} (CX : fb_C p s m args meth c kc_M_forget (some .int) 3 "FileTreeModel" (dC, dI) vcl (tM dA) A zM) (o : Int32 × fb_S) (k9 : Int32 → Int32 → fb_S → Option (Int32 × fb_S)) (hk9 : ∀ (x1 : Int32) (x2 : Int32) (st : fb_S), k9 x1 x2 st = some o → fb_G p l e (headSpec kw_M_forget rm_M_forget).room s m args below meth c (dC, dI) vcl (tM dA) (wM dA a) A (some (.int o.1)) o.2 9 3 [(0, .ref (a 0)), (1, .int x1), (2, .int x2)] [] st) (x1 : Int32) (x2 : Int32) (st : fb_S) (hF : b_M_forget_9 k9 x1 x2 st = some o) : fb_G p l e (headSpec kw_M_forget rm_M_forget).room s m args below meth c (dC, dI) vcl (tM dA) (wM dA a) A (some (.int o.1)) o.2 9 3 [(0, .ref (a 0)), (1, .int x1), (2, .int x2)] [] st := by
  intro H locs hP hD hS ls hl
  obtain ⟨hx, hb, hr, hml, hown, hts, hK, hA, hlocks, hZ⟩ := id CX
  unfold b_M_forget_9 at hF
  refine lv_iload_n hx hb kd_M_forget_9 rfl (lv_at hl 2 rfl) ?_
  refine lv_bipush (v := 64) hx hb kd_M_forget_10 (by decide) ?_
  refine lv_icmp_ge (tgt := 44) hx hb kd_M_forget_12 (by decide) (fun c1 => ?_) (fun c1 => ?_)
  · rw [if_pos c1] at hF
    refine lv_iload_n hx hb kd_M_forget_44 rfl (lv_at hl 1 rfl) ?_
    exact fb_ri (o := o) hx hb hr hlocks hK hP hD hS hF kd_M_forget_45
  · rw [if_neg c1] at hF
    refine lv_aload_n hx hb kd_M_forget_15 rfl (lv_at hl 0 rfl) ?_
    refine va_get (D := (dC, dI)) (ci := 5) (v := .ref (a 10)) (C := "FileTreeModel") (T := ft_M) (N := 18) hx hb hts fi_M hown hK hP 0 rfl rfl 11 (by decide) (hts _ q_480) (fun _ h9 => h9) rfl kd_M_forget_16 ?_
    refine lv_iload_n hx hb kd_M_forget_19 rfl (lv_at hl 2 rfl) ?_
    refine lv_iconst (v := 0) hx hb kd_M_forget_20 (by decide) ?_
    obtain ⟨s2, e_s2, hF⟩ := fb_ob hF
    refine fb_iast (wx := (wM dA a)) (k := 9) hx hb hK hP hD hS 10 0 rfl rfl e_s2 (fun _ => rfl) kd_M_forget_21 (fun H locs hP hD hS => ?_)
    refine lv_iload_n hx hb kd_M_forget_22 rfl (lv_at hl 1 rfl) ?_
    refine lv_aload_n hx hb kd_M_forget_23 rfl (lv_at hl 0 rfl) ?_
    refine lv_iload_n hx hb kd_M_forget_24 rfl (lv_at hl 2 rfl) ?_
    obtain ⟨r3, e_r3, hF⟩ := fb_ob hF
    refine fb_callV (As := [.int x2]) (rest := [.int x1]) ⟨hx, hb, hml, hown, hts⟩ zM_mv hZ hK hP hD hS hA (c_M_ends l dC dI dA a x2 s2 r3 e_r3) (cwV 1 hts (gd_V q_627 ko_M_ends) rfl rfl rfl kh_M_ends ⟨Nat.le_of_ble_eq_true rfl, Nat.le_of_ble_eq_true rfl⟩) 5 0 rfl rfl rfl rfl hl.1 rfl (Nat.le_of_ble_eq_true rfl) kd_M_forget_25 ⟨Nat.zero_le _, Nat.zero_le _⟩ (fun H locs hP hD hS => ?_)
    refine W.eq (g2 := F0 m 28 ls [.int r3.1, .int x1]) rfl ?_
    refine lv_if_eq (tgt := 35) hx hb kd_M_forget_28 (by decide) (fun c4 => ?_) (fun c4 => ?_)
    · rw [if_pos c4] at hF
      refine lv_iconst (v := 0) hx hb kd_M_forget_35 (by decide) ?_
      exact w_M_forget_36 CX o k9 hk9 x2 (0 : Int32) x1 r3.2 hF H locs hP hD hS ls (lv_sub hl [0, 2] rfl)
    · rw [if_neg c4] at hF
      refine lv_iconst (v := 1) hx hb kd_M_forget_31 (by decide) ?_
      refine lv_goto (tgt := 36) hx hb kd_M_forget_32 (by decide) ?_
      exact w_M_forget_36 CX o k9 hk9 x2 (1 : Int32) x1 r3.2 hF H locs hP hD hS ls (lv_sub hl [0, 2] rfl)
def l_M_forget_9 : Nat → Int32 → Int32 → fb_S → Option (Int32 × fb_S)
  | 0 => fun _ _ _ => none
  | n + 1 => b_M_forget_9 (l_M_forget_9 n)
theorem v_M_forget_9 {p : Program} {l : Launch} {e : Env} {s : State} {m : MethodId} {args : Array Value} {below : List Frame} {meth : Method} {c : Code} {A : Nat → Prop} {dC : Nat → ClassId} {dI : Nat → Nat → Nat} {dA : Nat → ClassId} {a : Nat → Nat} (CX : fb_C p s m args meth c kc_M_forget (some .int) 3 "FileTreeModel" (dC, dI) vcl (tM dA) A zM) (o : Int32 × fb_S) (n : Nat) : ∀ (x1 : Int32) (x2 : Int32) (st : fb_S), l_M_forget_9 n x1 x2 st = some o → fb_G p l e (headSpec kw_M_forget rm_M_forget).room s m args below meth c (dC, dI) vcl (tM dA) (wM dA a) A (some (.int o.1)) o.2 9 3 [(0, .ref (a 0)), (1, .int x1), (2, .int x2)] [] st := by
  induction n with
  | zero => intro x1 x2 st hF; cases hF
  | succ n ih => intro x1 x2 st hF; exact w_M_forget_9 CX o (l_M_forget_9 n) ih x1 x2 st hF
def f_M_forget (st : fb_S) : Option (Int32 × fb_S) := (fb_pf st 14 (0 : Int32)).bind fun s1 => l_M_forget_9 fb_n (0 : Int32) (0 : Int32) s1
set_option maxHeartbeats 4000000 in
set_option maxRecDepth 100000 in
theorem w_M_forget_0 {p : Program} {l : Launch} {e : Env} {s : State} {m : MethodId} {args : Array Value} {below : List Frame} {meth : Method} {c : Code} {A : Nat → Prop} {dC : Nat → ClassId} {dI : Nat → Nat → Nat} {dA : Nat → ClassId} {a : Nat → Nat} (CX : fb_C p s m args meth c kc_M_forget (some .int) 3 "FileTreeModel" (dC, dI) vcl (tM dA) A zM) (o : Int32 × fb_S) (st : fb_S) (hF : f_M_forget st = some o) : fb_G p l e (headSpec kw_M_forget rm_M_forget).room s m args below meth c (dC, dI) vcl (tM dA) (wM dA a) A (some (.int o.1)) o.2 0 3 [(0, .ref (a 0))] [] st := by
  intro H locs hP hD hS ls hl
  obtain ⟨hx, hb, hr, hml, hown, hts, hK, hA, hlocks, hZ⟩ := id CX
  unfold f_M_forget at hF
  refine lv_aload_n hx hb kd_M_forget_0 rfl (lv_at hl 0 rfl) ?_
  refine lv_iconst (v := 0) hx hb kd_M_forget_1 (by decide) ?_
  obtain ⟨s1, e_s1, hF⟩ := fb_ob hF
  refine va_put (D := (dC, dI)) (ci := 5) (v := .int (0 : Int32)) (ty := .int) (C := "FileTreeModel") (T := ft_M) (N := 18) hx hb hts fi_M fy_M fo_M fn_M hown hK hP hD hS 0 rfl rfl 0 (by decide) (hts _ q_469) (fun _ h9 => h9) rfl (by decide +kernel) rfl rfl (Nat.le_of_ble_eq_true rfl) kd_M_forget_2 (fun H locs hP hD hS => ?_)
  cases e_s1
  obtain ⟨s1, e_s1⟩ : ∃ z : fb_S, z = va_up st 14 (upd (st 14) 0 (0 : Int32)) := ⟨_, rfl⟩
  rw [← e_s1] at hF
  have hP : va_P (dC, dI) vcl ((wM dA a) s1) H := by rw [e_s1]; exact hP
  have hD : va_D A ((wM dA a) s1) := by rw [e_s1]; exact hD
  refine lv_iconst (v := 0) hx hb kd_M_forget_5 (by decide) ?_
  refine lv_istore_n (lv' := [(1, .int (0 : Int32)), (0, .ref (a 0))]) hx hb kd_M_forget_6 rfl hl (by decide) rfl (fun ls hl => ?_)
  refine lv_iconst (v := 0) hx hb kd_M_forget_7 (by decide) ?_
  refine lv_istore_n (lv' := [(2, .int (0 : Int32)), (1, .int (0 : Int32)), (0, .ref (a 0))]) hx hb kd_M_forget_8 rfl hl (by decide) rfl (fun ls hl => ?_)
  exact v_M_forget_9 CX o fb_n (0 : Int32) (0 : Int32) s1 hF H locs hP hD hS ls (lv_sub hl [2, 1, 0] rfl)
theorem c_M_forget (l : Launch) (dC : Nat → ClassId) (dI : Nat → Nat → Nat) (dA : Nat → ClassId) (a : Nat → Nat) (st : fb_S) (o : Int32 × fb_S) (h : f_M_forget st = some o) : fb_M l ky_M_forget kw_M_forget rm_M_forget (dC, dI) vcl (tM dA) (wM dA a) zM [.ref (a 0)] (some (.int o.1)) st o.2 := fb_enter (by decide) rfl (Nat.le_of_ble_eq_true rfl) (fun p e s m below meth c A CX hP hD hS ls hl => w_M_forget_0 CX o st h s.heap [] hP hD hS ls hl)
abbrev rm_M_fill : Room := { frames := 0, cells := 0, slots := 0, locals := 0 }
def b_M_fill_27 (k27 : Int32 → Int32 → Int32 → Int32 → fb_S → Option (Int32 × fb_S)) (x1 : Int32) (x2 : Int32) (x3 : Int32) (x4 : Int32) (st : fb_S) : Option (Int32 × fb_S) := (if x2 ≤ x4 then fb_rz (1 : Int32) st else (fb_st st 1 3072 (x1 + x4) (fb_b (fb_b (x3 + x4)))).bind fun s2 => k27 x1 x2 x3 (x4 + (1 : Int32)) s2)
set_option maxHeartbeats 4000000 in
set_option maxRecDepth 100000 in
theorem w_M_fill_27 {p : Program} {l : Launch} {e : Env} {s : State} {m : MethodId} {args : Array Value} {below : List Frame} {meth : Method} {c : Code} {A : Nat → Prop} {dC : Nat → ClassId} {dI : Nat → Nat → Nat} {dA : Nat → ClassId} {a : Nat → Nat} (CX : fb_C p s m args meth c kc_M_fill (some .boolean) 5 "FileTreeModel" (dC, dI) vcl (tM dA) A zM) (o : Int32 × fb_S) (k27 : Int32 → Int32 → Int32 → Int32 → fb_S → Option (Int32 × fb_S)) (hk27 : ∀ (x1 : Int32) (x2 : Int32) (x3 : Int32) (x4 : Int32) (st : fb_S), k27 x1 x2 x3 x4 st = some o → fb_G p l e (headSpec kw_M_fill rm_M_fill).room s m args below meth c (dC, dI) vcl (tM dA) (wM dA a) A (some (.int o.1)) o.2 27 5 [(0, .ref (a 0)), (1, .int x1), (2, .int x2), (3, .int x3), (4, .int x4)] [] st) (x1 : Int32) (x2 : Int32) (x3 : Int32) (x4 : Int32) (st : fb_S) (hF : b_M_fill_27 k27 x1 x2 x3 x4 st = some o) : fb_G p l e (headSpec kw_M_fill rm_M_fill).room s m args below meth c (dC, dI) vcl (tM dA) (wM dA a) A (some (.int o.1)) o.2 27 5 [(0, .ref (a 0)), (1, .int x1), (2, .int x2), (3, .int x3), (4, .int x4)] [] st := by
  intro H locs hP hD hS ls hl
  obtain ⟨hx, hb, hr, hml, hown, hts, hK, hA, hlocks, hZ⟩ := id CX
  unfold b_M_fill_27 at hF
  refine lv_iload hx hb kd_M_fill_27 (lv_at hl 4 rfl) ?_
  refine lv_iload_n hx hb kd_M_fill_29 rfl (lv_at hl 2 rfl) ?_
  refine lv_icmp_ge (tgt := 53) hx hb kd_M_fill_30 (by decide) (fun c1 => ?_) (fun c1 => ?_)
  · rw [if_pos c1] at hF
    refine lv_iconst (v := 1) hx hb kd_M_fill_53 (by decide) ?_
    exact fb_rb (o := o) hx hb hr hlocks hK hP hD hS hF kd_M_fill_54
  · rw [if_neg c1] at hF
    refine lv_aload_n hx hb kd_M_fill_33 rfl (lv_at hl 0 rfl) ?_
    refine va_get (D := (dC, dI)) (ci := 5) (v := .ref (a 2)) (C := "FileTreeModel") (T := ft_M) (N := 18) hx hb hts fi_M hown hK hP 0 rfl rfl 3 (by decide) (hts _ q_472) (fun _ h9 => h9) rfl kd_M_fill_34 ?_
    refine lv_iload_n hx hb kd_M_fill_37 rfl (lv_at hl 1 rfl) ?_
    refine lv_iload hx hb kd_M_fill_38 (lv_at hl 4 rfl) ?_
    refine lv_iadd hx hb kd_M_fill_40 ?_
    refine lv_iload_n hx hb kd_M_fill_41 rfl (lv_at hl 3 rfl) ?_
    refine lv_iload hx hb kd_M_fill_42 (lv_at hl 4 rfl) ?_
    refine lv_iadd hx hb kd_M_fill_44 ?_
    refine lv_i2b (v := fb_b (x3 + x4)) hx hb kd_M_fill_45 rfl ?_
    obtain ⟨s2, e_s2, hF⟩ := fb_ob hF
    refine fb_bast (wx := (wM dA a)) (k := 1) hx hb hK hP hD hS 2 1 rfl rfl e_s2 (fun _ => rfl) kd_M_fill_46 (fun H locs hP hD hS => ?_)
    refine lv_iinc (v := x4 + (1 : Int32)) (lv' := [(4, .int (x4 + (1 : Int32))), (0, .ref (a 0)), (1, .int x1), (2, .int x2), (3, .int x3)]) hx hb kd_M_fill_47 hl (k := 4) rfl rfl (by decide) rfl (fun ls hl => ?_)
    refine lv_goto (tgt := 27) hx hb kd_M_fill_50 (by decide) ?_
    exact hk27 x1 x2 x3 (x4 + (1 : Int32)) s2 hF H locs hP hD hS ls (lv_sub hl [1, 2, 3, 4, 0] rfl)
def l_M_fill_27 : Nat → Int32 → Int32 → Int32 → Int32 → fb_S → Option (Int32 × fb_S)
  | 0 => fun _ _ _ _ _ => none
  | n + 1 => b_M_fill_27 (l_M_fill_27 n)
theorem v_M_fill_27 {p : Program} {l : Launch} {e : Env} {s : State} {m : MethodId} {args : Array Value} {below : List Frame} {meth : Method} {c : Code} {A : Nat → Prop} {dC : Nat → ClassId} {dI : Nat → Nat → Nat} {dA : Nat → ClassId} {a : Nat → Nat} (CX : fb_C p s m args meth c kc_M_fill (some .boolean) 5 "FileTreeModel" (dC, dI) vcl (tM dA) A zM) (o : Int32 × fb_S) (n : Nat) : ∀ (x1 : Int32) (x2 : Int32) (x3 : Int32) (x4 : Int32) (st : fb_S), l_M_fill_27 n x1 x2 x3 x4 st = some o → fb_G p l e (headSpec kw_M_fill rm_M_fill).room s m args below meth c (dC, dI) vcl (tM dA) (wM dA a) A (some (.int o.1)) o.2 27 5 [(0, .ref (a 0)), (1, .int x1), (2, .int x2), (3, .int x3), (4, .int x4)] [] st := by
  induction n with
  | zero => intro x1 x2 x3 x4 st hF; cases hF
  | succ n ih => intro x1 x2 x3 x4 st hF; exact w_M_fill_27 CX o (l_M_fill_27 n) ih x1 x2 x3 x4 st hF
def f_M_fill (x1 : Int32) (x2 : Int32) (x3 : Int32) (st : fb_S) : Option (Int32 × fb_S) := (fb_pf st 14 (0 : Int32)).bind fun s1 => (if x2 < (0 : Int32) then fb_rz (0 : Int32) s1 else (if x1 < (0 : Int32) then fb_rz (0 : Int32) s1 else (if x1 ≤ ((3072 : Int32) - x2) then l_M_fill_27 fb_n x1 x2 x3 (0 : Int32) s1 else fb_rz (0 : Int32) s1)))
set_option maxHeartbeats 4000000 in
set_option maxRecDepth 100000 in
theorem w_M_fill_0 {p : Program} {l : Launch} {e : Env} {s : State} {m : MethodId} {args : Array Value} {below : List Frame} {meth : Method} {c : Code} {A : Nat → Prop} {dC : Nat → ClassId} {dI : Nat → Nat → Nat} {dA : Nat → ClassId} {a : Nat → Nat} (CX : fb_C p s m args meth c kc_M_fill (some .boolean) 5 "FileTreeModel" (dC, dI) vcl (tM dA) A zM) (o : Int32 × fb_S) (x1 : Int32) (x2 : Int32) (x3 : Int32) (st : fb_S) (hF : f_M_fill x1 x2 x3 st = some o) : fb_G p l e (headSpec kw_M_fill rm_M_fill).room s m args below meth c (dC, dI) vcl (tM dA) (wM dA a) A (some (.int o.1)) o.2 0 5 [(0, .ref (a 0)), (1, .int x1), (2, .int x2), (3, .int x3)] [] st := by
  intro H locs hP hD hS ls hl
  obtain ⟨hx, hb, hr, hml, hown, hts, hK, hA, hlocks, hZ⟩ := id CX
  unfold f_M_fill at hF
  refine lv_aload_n hx hb kd_M_fill_0 rfl (lv_at hl 0 rfl) ?_
  refine lv_iconst (v := 0) hx hb kd_M_fill_1 (by decide) ?_
  obtain ⟨s1, e_s1, hF⟩ := fb_ob hF
  refine va_put (D := (dC, dI)) (ci := 5) (v := .int (0 : Int32)) (ty := .int) (C := "FileTreeModel") (T := ft_M) (N := 18) hx hb hts fi_M fy_M fo_M fn_M hown hK hP hD hS 0 rfl rfl 0 (by decide) (hts _ q_469) (fun _ h9 => h9) rfl (by decide +kernel) rfl rfl (Nat.le_of_ble_eq_true rfl) kd_M_fill_2 (fun H locs hP hD hS => ?_)
  cases e_s1
  obtain ⟨s1, e_s1⟩ : ∃ z : fb_S, z = va_up st 14 (upd (st 14) 0 (0 : Int32)) := ⟨_, rfl⟩
  rw [← e_s1] at hF
  have hP : va_P (dC, dI) vcl ((wM dA a) s1) H := by rw [e_s1]; exact hP
  have hD : va_D A ((wM dA a) s1) := by rw [e_s1]; exact hD
  refine lv_iload_n hx hb kd_M_fill_5 rfl (lv_at hl 2 rfl) ?_
  refine lv_if_lt (tgt := 22) hx hb kd_M_fill_6 (by decide) (fun c2 => ?_) (fun c2 => ?_)
  · rw [if_pos c2] at hF
    refine lv_iconst (v := 0) hx hb kd_M_fill_22 (by decide) ?_
    exact fb_rb (o := o) hx hb hr hlocks hK hP hD hS hF kd_M_fill_23
  · rw [if_neg c2] at hF
    refine lv_iload_n hx hb kd_M_fill_9 rfl (lv_at hl 1 rfl) ?_
    refine lv_if_lt (tgt := 22) hx hb kd_M_fill_10 (by decide) (fun c3 => ?_) (fun c3 => ?_)
    · rw [if_pos c3] at hF
      refine lv_iconst (v := 0) hx hb kd_M_fill_22 (by decide) ?_
      exact fb_rb (o := o) hx hb hr hlocks hK hP hD hS hF kd_M_fill_23
    · rw [if_neg c3] at hF
      refine lv_iload_n hx hb kd_M_fill_13 rfl (lv_at hl 1 rfl) ?_
      refine lv_sipush (v := 3072) hx hb kd_M_fill_14 (by decide) ?_
      refine lv_iload_n hx hb kd_M_fill_17 rfl (lv_at hl 2 rfl) ?_
      refine lv_isub hx hb kd_M_fill_18 ?_
      refine lv_icmp_le (tgt := 24) hx hb kd_M_fill_19 (by decide) (fun c4 => ?_) (fun c4 => ?_)
      · rw [if_pos c4] at hF
        refine lv_iconst (v := 0) hx hb kd_M_fill_24 (by decide) ?_
        refine lv_istore (lv' := [(4, .int (0 : Int32)), (0, .ref (a 0)), (1, .int x1), (2, .int x2), (3, .int x3)]) hx hb kd_M_fill_25 hl (by decide) rfl (fun ls hl => ?_)
        exact v_M_fill_27 CX o fb_n x1 x2 x3 (0 : Int32) s1 hF H locs hP hD hS ls (lv_sub hl [1, 2, 3, 4, 0] rfl)
      · rw [if_neg c4] at hF
        refine lv_iconst (v := 0) hx hb kd_M_fill_22 (by decide) ?_
        exact fb_rb (o := o) hx hb hr hlocks hK hP hD hS hF kd_M_fill_23
theorem c_M_fill (l : Launch) (dC : Nat → ClassId) (dI : Nat → Nat → Nat) (dA : Nat → ClassId) (a : Nat → Nat) (x1 : Int32) (x2 : Int32) (x3 : Int32) (st : fb_S) (o : Int32 × fb_S) (h : f_M_fill x1 x2 x3 st = some o) : fb_M l ky_M_fill kw_M_fill rm_M_fill (dC, dI) vcl (tM dA) (wM dA a) zM [.ref (a 0), .int x1, .int x2, .int x3] (some (.int o.1)) st o.2 := fb_enter (by decide) rfl (Nat.le_of_ble_eq_true rfl) (fun p e s m below meth c A CX hP hD hS ls hl => w_M_fill_0 CX o x1 x2 x3 st h s.heap [] hP hD hS ls hl)
abbrev rm_M_at : Room := { frames := 0, cells := 0, slots := 0, locals := 0 }
def f_M_at (x1 : Int32) (st : fb_S) : Option (Int32 × fb_S) := (fb_pf st 14 (0 : Int32)).bind fun s1 => (if x1 < (0 : Int32) then some ((-1 : Int32), s1) else (if (3072 : Int32) ≤ x1 then some ((-1 : Int32), s1) else (fb_ld (s1 1) 3072 x1).bind fun v4 => some (v4 &&& (255 : Int32), s1)))
set_option maxHeartbeats 4000000 in
set_option maxRecDepth 100000 in
theorem w_M_at_0 {p : Program} {l : Launch} {e : Env} {s : State} {m : MethodId} {args : Array Value} {below : List Frame} {meth : Method} {c : Code} {A : Nat → Prop} {dC : Nat → ClassId} {dI : Nat → Nat → Nat} {dA : Nat → ClassId} {a : Nat → Nat} (CX : fb_C p s m args meth c kc_M_at (some .int) 2 "FileTreeModel" (dC, dI) vcl (tM dA) A zM) (o : Int32 × fb_S) (x1 : Int32) (st : fb_S) (hF : f_M_at x1 st = some o) : fb_G p l e (headSpec kw_M_at rm_M_at).room s m args below meth c (dC, dI) vcl (tM dA) (wM dA a) A (some (.int o.1)) o.2 0 2 [(0, .ref (a 0)), (1, .int x1)] [] st := by
  intro H locs hP hD hS ls hl
  obtain ⟨hx, hb, hr, hml, hown, hts, hK, hA, hlocks, hZ⟩ := id CX
  unfold f_M_at at hF
  refine lv_aload_n hx hb kd_M_at_0 rfl (lv_at hl 0 rfl) ?_
  refine lv_iconst (v := 0) hx hb kd_M_at_1 (by decide) ?_
  obtain ⟨s1, e_s1, hF⟩ := fb_ob hF
  refine va_put (D := (dC, dI)) (ci := 5) (v := .int (0 : Int32)) (ty := .int) (C := "FileTreeModel") (T := ft_M) (N := 18) hx hb hts fi_M fy_M fo_M fn_M hown hK hP hD hS 0 rfl rfl 0 (by decide) (hts _ q_469) (fun _ h9 => h9) rfl (by decide +kernel) rfl rfl (Nat.le_of_ble_eq_true rfl) kd_M_at_2 (fun H locs hP hD hS => ?_)
  cases e_s1
  obtain ⟨s1, e_s1⟩ : ∃ z : fb_S, z = va_up st 14 (upd (st 14) 0 (0 : Int32)) := ⟨_, rfl⟩
  rw [← e_s1] at hF
  have hP : va_P (dC, dI) vcl ((wM dA a) s1) H := by rw [e_s1]; exact hP
  have hD : va_D A ((wM dA a) s1) := by rw [e_s1]; exact hD
  refine lv_iload_n hx hb kd_M_at_5 rfl (lv_at hl 1 rfl) ?_
  refine lv_if_lt (tgt := 29) hx hb kd_M_at_6 (by decide) (fun c2 => ?_) (fun c2 => ?_)
  · rw [if_pos c2] at hF
    refine lv_iconst (v := (-1)) hx hb kd_M_at_29 (by decide) ?_
    exact fb_ri (o := o) hx hb hr hlocks hK hP hD hS hF kd_M_at_30
  · rw [if_neg c2] at hF
    refine lv_iload_n hx hb kd_M_at_9 rfl (lv_at hl 1 rfl) ?_
    refine lv_sipush (v := 3072) hx hb kd_M_at_10 (by decide) ?_
    refine lv_icmp_ge (tgt := 29) hx hb kd_M_at_13 (by decide) (fun c3 => ?_) (fun c3 => ?_)
    · rw [if_pos c3] at hF
      refine lv_iconst (v := (-1)) hx hb kd_M_at_29 (by decide) ?_
      exact fb_ri (o := o) hx hb hr hlocks hK hP hD hS hF kd_M_at_30
    · rw [if_neg c3] at hF
      refine lv_aload_n hx hb kd_M_at_16 rfl (lv_at hl 0 rfl) ?_
      refine va_get (D := (dC, dI)) (ci := 5) (v := .ref (a 2)) (C := "FileTreeModel") (T := ft_M) (N := 18) hx hb hts fi_M hown hK hP 0 rfl rfl 3 (by decide) (hts _ q_472) (fun _ h9 => h9) rfl kd_M_at_17 ?_
      refine lv_iload_n hx hb kd_M_at_20 rfl (lv_at hl 1 rfl) ?_
      obtain ⟨v4, e_v4, hF⟩ := fb_ob hF
      refine fb_bald hx hb hK hP 2 1 rfl rfl e_v4 kd_M_at_21 ?_
      refine lv_sipush (v := 255) hx hb kd_M_at_22 (by decide) ?_
      refine lv_iand hx hb kd_M_at_25 ?_
      refine lv_goto (tgt := 30) hx hb kd_M_at_26 (by decide) ?_
      exact fb_ri (o := o) hx hb hr hlocks hK hP hD hS hF kd_M_at_30
theorem c_M_at (l : Launch) (dC : Nat → ClassId) (dI : Nat → Nat → Nat) (dA : Nat → ClassId) (a : Nat → Nat) (x1 : Int32) (st : fb_S) (o : Int32 × fb_S) (h : f_M_at x1 st = some o) : fb_M l ky_M_at kw_M_at rm_M_at (dC, dI) vcl (tM dA) (wM dA a) zM [.ref (a 0), .int x1] (some (.int o.1)) st o.2 := fb_enter (by decide) rfl (Nat.le_of_ble_eq_true rfl) (fun p e s m below meth c A CX hP hD hS ls hl => w_M_at_0 CX o x1 st h s.heap [] hP hD hS ls hl)
abbrev rm_M_of : Room := { frames := 0, cells := 0, slots := 0, locals := 0 }
def f_M_of (x0 : Int32) (x1 : Int32) (st : fb_S) : Option (Int32 × fb_S) := some ((x0 >>> (((8 : Int32) * x1) &&& 31)) &&& (255 : Int32), st)
set_option maxHeartbeats 4000000 in
set_option maxRecDepth 100000 in
theorem w_M_of_0 {p : Program} {l : Launch} {e : Env} {s : State} {m : MethodId} {args : Array Value} {below : List Frame} {meth : Method} {c : Code} {A : Nat → Prop} {dC : Nat → ClassId} {dI : Nat → Nat → Nat} {dA : Nat → ClassId} {a : Nat → Nat} (CX : fb_C p s m args meth c kc_M_of (some .int) 2 "FileTreeModel" (dC, dI) vcl (tM dA) A zM) (o : Int32 × fb_S) (x0 : Int32) (x1 : Int32) (st : fb_S) (hF : f_M_of x0 x1 st = some o) : fb_G p l e (headSpec kw_M_of rm_M_of).room s m args below meth c (dC, dI) vcl (tM dA) (wM dA a) A (some (.int o.1)) o.2 0 2 [(0, .int x0), (1, .int x1)] [] st := by
  intro H locs hP hD hS ls hl
  obtain ⟨hx, hb, hr, hml, hown, hts, hK, hA, hlocks, hZ⟩ := id CX
  unfold f_M_of at hF
  refine lv_iload_n hx hb kd_M_of_0 rfl (lv_at hl 0 rfl) ?_
  refine lv_bipush (v := 8) hx hb kd_M_of_1 (by decide) ?_
  refine lv_iload_n hx hb kd_M_of_3 rfl (lv_at hl 1 rfl) ?_
  refine lv_imul hx hb kd_M_of_4 ?_
  refine lv_ishr hx hb kd_M_of_5 ?_
  refine lv_sipush (v := 255) hx hb kd_M_of_6 (by decide) ?_
  refine lv_iand hx hb kd_M_of_9 ?_
  exact fb_ri (o := o) hx hb hr hlocks hK hP hD hS hF kd_M_of_10
theorem c_M_of (l : Launch) (dC : Nat → ClassId) (dI : Nat → Nat → Nat) (dA : Nat → ClassId) (a : Nat → Nat) (x0 : Int32) (x1 : Int32) (st : fb_S) (o : Int32 × fb_S) (h : f_M_of x0 x1 st = some o) : fb_M l ky_M_of kw_M_of rm_M_of (dC, dI) vcl (tM dA) (wM dA a) zM [.int x0, .int x1] (some (.int o.1)) st o.2 := fb_enter (by decide) rfl (Nat.le_of_ble_eq_true rfl) (fun p e s m below meth c A CX hP hD hS ls hl => w_M_of_0 CX o x0 x1 st h s.heap [] hP hD hS ls hl)
abbrev rm_M_inodeByte : Room := { frames := 1, cells := 0, slots := 0, locals := 21 }
def b_M_inodeByte_112 (x2 : Int32) (y0 : Int32) (y1 : Int32) (st : fb_S) : Option (Int32 × fb_S) := (fb_ld (st 11) 17216 (y1 + y0)).bind fun v1 => (f_M_of v1 (x2 - x2 / (4 : Int32) * (4 : Int32)) st).bind fun r2 => some (r2.1, r2.2)
set_option maxHeartbeats 4000000 in
set_option maxRecDepth 100000 in
theorem w_M_inodeByte_112 {p : Program} {l : Launch} {e : Env} {s : State} {m : MethodId} {args : Array Value} {below : List Frame} {meth : Method} {c : Code} {A : Nat → Prop} {dC : Nat → ClassId} {dI : Nat → Nat → Nat} {dA : Nat → ClassId} {a : Nat → Nat} (CX : fb_C p s m args meth c kc_M_inodeByte (some .int) 4 "FileTreeModel" (dC, dI) vcl (tM dA) A zM) (o : Int32 × fb_S) (x2 : Int32) (y0 : Int32) (y1 : Int32) (st : fb_S) (hF : b_M_inodeByte_112 x2 y0 y1 st = some o) : fb_G p l e (headSpec kw_M_inodeByte rm_M_inodeByte).room s m args below meth c (dC, dI) vcl (tM dA) (wM dA a) A (some (.int o.1)) o.2 112 4 [(2, .int x2)] [.int y0, .int y1, .ref (a 12)] st := by
  intro H locs hP hD hS ls hl
  obtain ⟨hx, hb, hr, hml, hown, hts, hK, hA, hlocks, hZ⟩ := id CX
  unfold b_M_inodeByte_112 at hF
  refine lv_iadd hx hb kd_M_inodeByte_112 ?_
  obtain ⟨v1, e_v1, hF⟩ := fb_ob hF
  refine fb_iald hx hb hK hP 12 0 rfl rfl e_v1 kd_M_inodeByte_113 ?_
  refine lv_iload_n hx hb kd_M_inodeByte_114 rfl (lv_at hl 0 rfl) ?_
  refine lv_iconst (v := 4) hx hb kd_M_inodeByte_115 (by decide) ?_
  refine lv_irem hx hb kd_M_inodeByte_116 (by decide) ?_
  obtain ⟨r2, e_r2, hF⟩ := fb_ob hF
  refine fb_callS (As := [.int v1, .int (x2 - x2 / (4 : Int32) * (4 : Int32))]) (rest := []) ⟨hx, hb, hml, hown, hts⟩ zM_mv hZ hK hP hD hS hA (c_M_of l dC dI dA a v1 (x2 - x2 / (4 : Int32) * (4 : Int32)) st r2 e_r2) (va_cwS 2 hts (gd_S q_683 ko_M_of) rfl rfl rfl kh_M_of ⟨Nat.le_of_ble_eq_true rfl, Nat.le_of_ble_eq_true rfl⟩) rfl hl.1 rfl (Nat.le_of_ble_eq_true rfl) kd_M_inodeByte_117 ⟨Nat.zero_le _, Nat.zero_le _⟩ (fun H locs hP hD hS => ?_)
  refine W.eq (g2 := F0 m 120 ls [.int r2.1]) rfl ?_
  exact fb_ri (o := o) hx hb hr hlocks hK hP hD hS hF kd_M_inodeByte_120
def b_M_inodeByte_55 (x2 : Int32) (y0 : Int32) (st : fb_S) : Option (Int32 × fb_S) := (f_M_of y0 (x2 - x2 / (2 : Int32) * (2 : Int32)) st).bind fun r1 => some (r1.1, r1.2)
set_option maxHeartbeats 4000000 in
set_option maxRecDepth 100000 in
theorem w_M_inodeByte_55 {p : Program} {l : Launch} {e : Env} {s : State} {m : MethodId} {args : Array Value} {below : List Frame} {meth : Method} {c : Code} {A : Nat → Prop} {dC : Nat → ClassId} {dI : Nat → Nat → Nat} {dA : Nat → ClassId} {a : Nat → Nat} (CX : fb_C p s m args meth c kc_M_inodeByte (some .int) 4 "FileTreeModel" (dC, dI) vcl (tM dA) A zM) (o : Int32 × fb_S) (x2 : Int32) (y0 : Int32) (st : fb_S) (hF : b_M_inodeByte_55 x2 y0 st = some o) : fb_G p l e (headSpec kw_M_inodeByte rm_M_inodeByte).room s m args below meth c (dC, dI) vcl (tM dA) (wM dA a) A (some (.int o.1)) o.2 55 4 [(2, .int x2)] [.int y0] st := by
  intro H locs hP hD hS ls hl
  obtain ⟨hx, hb, hr, hml, hown, hts, hK, hA, hlocks, hZ⟩ := id CX
  unfold b_M_inodeByte_55 at hF
  refine lv_istore_n (lv' := [(3, .int y0), (2, .int x2)]) hx hb kd_M_inodeByte_55 rfl hl (by decide) rfl (fun ls hl => ?_)
  refine lv_iload_n hx hb kd_M_inodeByte_56 rfl (lv_at hl 0 rfl) ?_
  refine lv_iload_n hx hb kd_M_inodeByte_57 rfl (lv_at hl 1 rfl) ?_
  refine lv_iconst (v := 2) hx hb kd_M_inodeByte_58 (by decide) ?_
  refine lv_irem hx hb kd_M_inodeByte_59 (by decide) ?_
  obtain ⟨r1, e_r1, hF⟩ := fb_ob hF
  refine fb_callS (As := [.int y0, .int (x2 - x2 / (2 : Int32) * (2 : Int32))]) (rest := []) ⟨hx, hb, hml, hown, hts⟩ zM_mv hZ hK hP hD hS hA (c_M_of l dC dI dA a y0 (x2 - x2 / (2 : Int32) * (2 : Int32)) st r1 e_r1) (va_cwS 2 hts (gd_S q_683 ko_M_of) rfl rfl rfl kh_M_of ⟨Nat.le_of_ble_eq_true rfl, Nat.le_of_ble_eq_true rfl⟩) rfl hl.1 rfl (Nat.le_of_ble_eq_true rfl) kd_M_inodeByte_60 ⟨Nat.zero_le _, Nat.zero_le _⟩ (fun H locs hP hD hS => ?_)
  refine W.eq (g2 := F0 m 63 ls [.int r1.1]) rfl ?_
  exact fb_ri (o := o) hx hb hr hlocks hK hP hD hS hF kd_M_inodeByte_63
def f_M_inodeByte (x1 : Int32) (x2 : Int32) (st : fb_S) : Option (Int32 × fb_S) := (if (8 : Int32) ≤ x2 then (if (12 : Int32) ≤ x2 then (if (12 : Int32) ≤ ((x2 / (4 : Int32)) - (3 : Int32)) then b_M_inodeByte_112 x2 (268 : Int32) ((269 : Int32) * x1) st else b_M_inodeByte_112 x2 ((x2 / (4 : Int32)) - (3 : Int32)) ((269 : Int32) * x1) st) else (fb_ld (st 8) 64 x1).bind fun v4 => (f_M_of v4 (x2 - (8 : Int32)) st).bind fun r5 => some (r5.1, r5.2)) else (if (2 : Int32) ≤ x2 then (if (4 : Int32) ≤ x2 then (if (6 : Int32) ≤ x2 then (fb_ld (st 7) 64 x1).bind fun v9 => b_M_inodeByte_55 x2 v9 st else (fb_ld (st 6) 64 x1).bind fun v10 => b_M_inodeByte_55 x2 v10 st) else (fb_ld (st 5) 64 x1).bind fun v11 => b_M_inodeByte_55 x2 v11 st) else (fb_ld (st 4) 64 x1).bind fun v12 => b_M_inodeByte_55 x2 v12 st))
set_option maxHeartbeats 4000000 in
set_option maxRecDepth 100000 in
theorem w_M_inodeByte_0 {p : Program} {l : Launch} {e : Env} {s : State} {m : MethodId} {args : Array Value} {below : List Frame} {meth : Method} {c : Code} {A : Nat → Prop} {dC : Nat → ClassId} {dI : Nat → Nat → Nat} {dA : Nat → ClassId} {a : Nat → Nat} (CX : fb_C p s m args meth c kc_M_inodeByte (some .int) 4 "FileTreeModel" (dC, dI) vcl (tM dA) A zM) (o : Int32 × fb_S) (x1 : Int32) (x2 : Int32) (st : fb_S) (hF : f_M_inodeByte x1 x2 st = some o) : fb_G p l e (headSpec kw_M_inodeByte rm_M_inodeByte).room s m args below meth c (dC, dI) vcl (tM dA) (wM dA a) A (some (.int o.1)) o.2 0 4 [(0, .ref (a 0)), (1, .int x1), (2, .int x2)] [] st := by
  intro H locs hP hD hS ls hl
  obtain ⟨hx, hb, hr, hml, hown, hts, hK, hA, hlocks, hZ⟩ := id CX
  unfold f_M_inodeByte at hF
  refine lv_iload_n hx hb kd_M_inodeByte_0 rfl (lv_at hl 2 rfl) ?_
  refine lv_bipush (v := 8) hx hb kd_M_inodeByte_1 (by decide) ?_
  refine lv_icmp_ge (tgt := 64) hx hb kd_M_inodeByte_3 (by decide) (fun c1 => ?_) (fun c1 => ?_)
  · rw [if_pos c1] at hF
    refine lv_iload_n hx hb kd_M_inodeByte_64 rfl (lv_at hl 2 rfl) ?_
    refine lv_bipush (v := 12) hx hb kd_M_inodeByte_65 (by decide) ?_
    refine lv_icmp_ge (tgt := 84) hx hb kd_M_inodeByte_67 (by decide) (fun c2 => ?_) (fun c2 => ?_)
    · rw [if_pos c2] at hF
      refine lv_iload_n hx hb kd_M_inodeByte_84 rfl (lv_at hl 2 rfl) ?_
      refine lv_iconst (v := 4) hx hb kd_M_inodeByte_85 (by decide) ?_
      refine lv_idiv hx hb kd_M_inodeByte_86 (by decide) ?_
      refine lv_iconst (v := 3) hx hb kd_M_inodeByte_87 (by decide) ?_
      refine lv_isub hx hb kd_M_inodeByte_88 ?_
      refine lv_istore_n (lv' := [(3, .int ((x2 / (4 : Int32)) - (3 : Int32))), (0, .ref (a 0)), (1, .int x1), (2, .int x2)]) hx hb kd_M_inodeByte_89 rfl hl (by decide) rfl (fun ls hl => ?_)
      refine lv_aload_n hx hb kd_M_inodeByte_90 rfl (lv_at hl 1 rfl) ?_
      refine va_get (D := (dC, dI)) (ci := 5) (v := .ref (a 12)) (C := "FileTreeModel") (T := ft_M) (N := 18) hx hb hts fi_M hown hK hP 0 rfl rfl 13 (by decide) (hts _ q_482) (fun _ h9 => h9) rfl kd_M_inodeByte_91 ?_
      refine lv_sipush (v := 269) hx hb kd_M_inodeByte_94 (by decide) ?_
      refine lv_iload_n hx hb kd_M_inodeByte_97 rfl (lv_at hl 2 rfl) ?_
      refine lv_imul hx hb kd_M_inodeByte_98 ?_
      refine lv_iload_n hx hb kd_M_inodeByte_99 rfl (lv_at hl 0 rfl) ?_
      refine lv_bipush (v := 12) hx hb kd_M_inodeByte_100 (by decide) ?_
      refine lv_icmp_ge (tgt := 109) hx hb kd_M_inodeByte_102 (by decide) (fun c3 => ?_) (fun c3 => ?_)
      · rw [if_pos c3] at hF
        refine lv_sipush (v := 268) hx hb kd_M_inodeByte_109 (by decide) ?_
        exact w_M_inodeByte_112 CX o x2 (268 : Int32) ((269 : Int32) * x1) st hF H locs hP hD hS ls (lv_sub hl [3] rfl)
      · rw [if_neg c3] at hF
        refine lv_iload_n hx hb kd_M_inodeByte_105 rfl (lv_at hl 0 rfl) ?_
        refine lv_goto (tgt := 112) hx hb kd_M_inodeByte_106 (by decide) ?_
        exact w_M_inodeByte_112 CX o x2 ((x2 / (4 : Int32)) - (3 : Int32)) ((269 : Int32) * x1) st hF H locs hP hD hS ls (lv_sub hl [3] rfl)
    · rw [if_neg c2] at hF
      refine lv_aload_n hx hb kd_M_inodeByte_70 rfl (lv_at hl 0 rfl) ?_
      refine va_get (D := (dC, dI)) (ci := 5) (v := .ref (a 9)) (C := "FileTreeModel") (T := ft_M) (N := 18) hx hb hts fi_M hown hK hP 0 rfl rfl 10 (by decide) (hts _ q_479) (fun _ h9 => h9) rfl kd_M_inodeByte_71 ?_
      refine lv_iload_n hx hb kd_M_inodeByte_74 rfl (lv_at hl 1 rfl) ?_
      obtain ⟨v4, e_v4, hF⟩ := fb_ob hF
      refine fb_iald hx hb hK hP 9 0 rfl rfl e_v4 kd_M_inodeByte_75 ?_
      refine lv_iload_n hx hb kd_M_inodeByte_76 rfl (lv_at hl 2 rfl) ?_
      refine lv_bipush (v := 8) hx hb kd_M_inodeByte_77 (by decide) ?_
      refine lv_isub hx hb kd_M_inodeByte_79 ?_
      obtain ⟨r5, e_r5, hF⟩ := fb_ob hF
      refine fb_callS (As := [.int v4, .int (x2 - (8 : Int32))]) (rest := []) ⟨hx, hb, hml, hown, hts⟩ zM_mv hZ hK hP hD hS hA (c_M_of l dC dI dA a v4 (x2 - (8 : Int32)) st r5 e_r5) (va_cwS 2 hts (gd_S q_683 ko_M_of) rfl rfl rfl kh_M_of ⟨Nat.le_of_ble_eq_true rfl, Nat.le_of_ble_eq_true rfl⟩) rfl hl.1 rfl (Nat.le_of_ble_eq_true rfl) kd_M_inodeByte_80 ⟨Nat.zero_le _, Nat.zero_le _⟩ (fun H locs hP hD hS => ?_)
      refine W.eq (g2 := F0 m 83 ls [.int r5.1]) rfl ?_
      exact fb_ri (o := o) hx hb hr hlocks hK hP hD hS hF kd_M_inodeByte_83
  · rw [if_neg c1] at hF
    refine lv_iload_n hx hb kd_M_inodeByte_6 rfl (lv_at hl 2 rfl) ?_
    refine lv_iconst (v := 2) hx hb kd_M_inodeByte_7 (by decide) ?_
    refine lv_icmp_ge (tgt := 20) hx hb kd_M_inodeByte_8 (by decide) (fun c6 => ?_) (fun c6 => ?_)
    · rw [if_pos c6] at hF
      refine lv_iload_n hx hb kd_M_inodeByte_20 rfl (lv_at hl 2 rfl) ?_
      refine lv_iconst (v := 4) hx hb kd_M_inodeByte_21 (by decide) ?_
      refine lv_icmp_ge (tgt := 34) hx hb kd_M_inodeByte_22 (by decide) (fun c7 => ?_) (fun c7 => ?_)
      · rw [if_pos c7] at hF
        refine lv_iload_n hx hb kd_M_inodeByte_34 rfl (lv_at hl 2 rfl) ?_
        refine lv_bipush (v := 6) hx hb kd_M_inodeByte_35 (by decide) ?_
        refine lv_icmp_ge (tgt := 49) hx hb kd_M_inodeByte_37 (by decide) (fun c8 => ?_) (fun c8 => ?_)
        · rw [if_pos c8] at hF
          refine lv_aload_n hx hb kd_M_inodeByte_49 rfl (lv_at hl 0 rfl) ?_
          refine va_get (D := (dC, dI)) (ci := 5) (v := .ref (a 8)) (C := "FileTreeModel") (T := ft_M) (N := 18) hx hb hts fi_M hown hK hP 0 rfl rfl 9 (by decide) (hts _ q_478) (fun _ h9 => h9) rfl kd_M_inodeByte_50 ?_
          refine lv_iload_n hx hb kd_M_inodeByte_53 rfl (lv_at hl 1 rfl) ?_
          obtain ⟨v9, e_v9, hF⟩ := fb_ob hF
          refine fb_iald hx hb hK hP 8 0 rfl rfl e_v9 kd_M_inodeByte_54 ?_
          exact w_M_inodeByte_55 CX o x2 v9 st hF H locs hP hD hS ls (lv_sub hl [2] rfl)
        · rw [if_neg c8] at hF
          refine lv_aload_n hx hb kd_M_inodeByte_40 rfl (lv_at hl 0 rfl) ?_
          refine va_get (D := (dC, dI)) (ci := 5) (v := .ref (a 7)) (C := "FileTreeModel") (T := ft_M) (N := 18) hx hb hts fi_M hown hK hP 0 rfl rfl 8 (by decide) (hts _ q_477) (fun _ h9 => h9) rfl kd_M_inodeByte_41 ?_
          refine lv_iload_n hx hb kd_M_inodeByte_44 rfl (lv_at hl 1 rfl) ?_
          obtain ⟨v10, e_v10, hF⟩ := fb_ob hF
          refine fb_iald hx hb hK hP 7 0 rfl rfl e_v10 kd_M_inodeByte_45 ?_
          refine lv_goto (tgt := 55) hx hb kd_M_inodeByte_46 (by decide) ?_
          exact w_M_inodeByte_55 CX o x2 v10 st hF H locs hP hD hS ls (lv_sub hl [2] rfl)
      · rw [if_neg c7] at hF
        refine lv_aload_n hx hb kd_M_inodeByte_25 rfl (lv_at hl 0 rfl) ?_
        refine va_get (D := (dC, dI)) (ci := 5) (v := .ref (a 6)) (C := "FileTreeModel") (T := ft_M) (N := 18) hx hb hts fi_M hown hK hP 0 rfl rfl 7 (by decide) (hts _ q_476) (fun _ h9 => h9) rfl kd_M_inodeByte_26 ?_
        refine lv_iload_n hx hb kd_M_inodeByte_29 rfl (lv_at hl 1 rfl) ?_
        obtain ⟨v11, e_v11, hF⟩ := fb_ob hF
        refine fb_iald hx hb hK hP 6 0 rfl rfl e_v11 kd_M_inodeByte_30 ?_
        refine lv_goto (tgt := 55) hx hb kd_M_inodeByte_31 (by decide) ?_
        exact w_M_inodeByte_55 CX o x2 v11 st hF H locs hP hD hS ls (lv_sub hl [2] rfl)
    · rw [if_neg c6] at hF
      refine lv_aload_n hx hb kd_M_inodeByte_11 rfl (lv_at hl 0 rfl) ?_
      refine va_get (D := (dC, dI)) (ci := 5) (v := .ref (a 5)) (C := "FileTreeModel") (T := ft_M) (N := 18) hx hb hts fi_M hown hK hP 0 rfl rfl 6 (by decide) (hts _ q_475) (fun _ h9 => h9) rfl kd_M_inodeByte_12 ?_
      refine lv_iload_n hx hb kd_M_inodeByte_15 rfl (lv_at hl 1 rfl) ?_
      obtain ⟨v12, e_v12, hF⟩ := fb_ob hF
      refine fb_iald hx hb hK hP 5 0 rfl rfl e_v12 kd_M_inodeByte_16 ?_
      refine lv_goto (tgt := 55) hx hb kd_M_inodeByte_17 (by decide) ?_
      exact w_M_inodeByte_55 CX o x2 v12 st hF H locs hP hD hS ls (lv_sub hl [2] rfl)
theorem c_M_inodeByte (l : Launch) (dC : Nat → ClassId) (dI : Nat → Nat → Nat) (dA : Nat → ClassId) (a : Nat → Nat) (x1 : Int32) (x2 : Int32) (st : fb_S) (o : Int32 × fb_S) (h : f_M_inodeByte x1 x2 st = some o) : fb_M l ky_M_inodeByte kw_M_inodeByte rm_M_inodeByte (dC, dI) vcl (tM dA) (wM dA a) zM [.ref (a 0), .int x1, .int x2] (some (.int o.1)) st o.2 := fb_enter (by decide) rfl (Nat.le_of_ble_eq_true rfl) (fun p e s m below meth c A CX hP hD hS ls hl => w_M_inodeByte_0 CX o x1 x2 st h s.heap [] hP hD hS ls hl)
