abbrev rm_T_link : Room := { frames := 5, cells := 0, slots := 0, locals := 119 }
def f_T_link (x1 : Int32) (st : fb_S) : Option (Int32 × fb_S) := (f_X_firstBlank st).bind fun r1 => (f_T_lead x1 (0 : Int32) r1.1 r1.2).bind fun r2 => (f_X_cutLastName (r1.1 + (1 : Int32)) (r2.2 6 0) r2.2).bind fun r3 => (f_T_lead x1 (r1.1 + (1 : Int32)) r3.1 r3.2).bind fun r4 => (f_X_empty r4.2).bind fun r5 => (if r2.1 = (-1 : Int32) then some ((-1 : Int32), r5.2) else (if r4.1 = (-1 : Int32) then some ((-1 : Int32), r5.2) else (f_I_kindOf r2.1 r5.2).bind fun r8 => (if r8.1 = (1 : Int32) then some ((-1 : Int32), r8.2) else (f_I_linksOf r2.1 r8.2).bind fun r10 => (if r10.1 < (32767 : Int32) then (f_D_entryNamed_last r4.1 r10.2).bind fun r12 => (if r12.1 = (-1 : Int32) then (f_D_hasRoom r4.1 (0 : Int32) r12.2).bind fun r14 => (if r14.1 = (0 : Int32) then some ((-1 : Int32), r14.2) else (f_D_addEntry_last r4.1 r2.1 r14.2).bind fun r16 => (f_I_addLinks r2.1 (1 : Int32) r16.2).bind fun r17 => some (r2.1, r17.2)) else some ((-1 : Int32), r12.2)) else some ((-1 : Int32), r10.2)))))
set_option maxHeartbeats 4000000 in
set_option maxRecDepth 100000 in
theorem w_T_link_0 {p : Program} {l : Launch} {e : Env} {s : State} {m : MethodId} {args : Array Value} {below : List Frame} {meth : Method} {c : Code} {A : Nat → Prop} {dC : Nat → ClassId} {dI : Nat → Nat → Nat} {dA : Nat → ClassId} {a : Nat → Nat} {z : Nat → Nat} (CX : fb_C p s m args meth c kc_T_link (some .int) 5 "FileTree" (dC, dI) vcl (tX dA) A (zX z)) (o : Int32 × fb_S) (x1 : Int32) (st : fb_S) (hF : f_T_link x1 st = some o) : fb_G p l e (headSpec kw_T_link rm_T_link).room s m args below meth c (dC, dI) vcl (tX dA) (wX dA a) A (some (.int o.1)) o.2 0 5 [(0, .ref (a 0)), (1, .int x1)] [] st := by
  intro H locs hP hD hS ls hl
  obtain ⟨hx, hb, hr, hml, hown, hts, hK, hA, hlocks, hZ⟩ := id CX
  unfold f_T_link at hF
  refine lv_aload_n hx hb kd_T_link_0 rfl (lv_at hl 0 rfl) ?_
  refine va_get (D := (dC, dI)) (ci := 4) (v := .ref (a 4)) (C := "FileTree") (T := ft_T) (N := 5) hx hb hts fi_T hown hK hP 0 rfl rfl 3 (by decide) (hts _ q_210) (fun _ h9 => h9) rfl kd_T_link_1 ?_
  obtain ⟨r1, e_r1, hF⟩ := fb_ob hF
  refine fb_callV (As := []) (rest := []) ⟨hx, hb, hml, hown, hts⟩ zX_mv hZ hK hP hD hS hA (c_X_firstBlank l dC dI dA a z st r1 e_r1) (cwV 0 hts (gd_V q_306 ko_X_firstBlank) rfl rfl rfl kh_X_firstBlank ⟨Nat.le_of_ble_eq_true rfl, Nat.le_of_ble_eq_true rfl⟩) 3 4 rfl rfl rfl rfl hl.1 rfl (Nat.le_of_ble_eq_true rfl) kd_T_link_4 ⟨Nat.zero_le _, Nat.zero_le _⟩ (fun H locs hP hD hS => ?_)
  refine W.eq (g2 := F0 m 7 ls [.int r1.1]) rfl ?_
  refine lv_istore_n (lv' := [(2, .int r1.1), (0, .ref (a 0)), (1, .int x1)]) hx hb kd_T_link_7 rfl hl (by decide) rfl (fun ls hl => ?_)
  refine lv_aload_n hx hb kd_T_link_8 rfl (lv_at hl 1 rfl) ?_
  refine lv_iload_n hx hb kd_T_link_9 rfl (lv_at hl 2 rfl) ?_
  refine lv_iconst (v := 0) hx hb kd_T_link_10 (by decide) ?_
  refine lv_iload_n hx hb kd_T_link_11 rfl (lv_at hl 0 rfl) ?_
  obtain ⟨r2, e_r2, hF⟩ := fb_ob hF
  refine fb_callV (As := [.int x1, .int (0 : Int32), .int r1.1]) (rest := []) ⟨hx, hb, hml, hown, hts⟩ zX_mv hZ hK hP hD hS hA (c_T_lead l dC dI dA a z x1 (0 : Int32) r1.1 r1.2 r2 e_r2) (cwV 3 hts (gd_V q_236 ko_T_lead) rfl rfl rfl kh_T_lead ⟨Nat.le_of_ble_eq_true rfl, Nat.le_of_ble_eq_true rfl⟩) 4 0 rfl rfl rfl rfl hl.1 rfl (Nat.le_of_ble_eq_true rfl) kd_T_link_12 ⟨Nat.zero_le _, Nat.zero_le _⟩ (fun H locs hP hD hS => ?_)
  refine W.eq (g2 := F0 m 15 ls [.int r2.1]) rfl ?_
  refine lv_istore_n (lv' := [(3, .int r2.1), (2, .int r1.1), (0, .ref (a 0)), (1, .int x1)]) hx hb kd_T_link_15 rfl hl (by decide) rfl (fun ls hl => ?_)
  refine lv_aload_n hx hb kd_T_link_16 rfl (lv_at hl 2 rfl) ?_
  refine lv_iload_n hx hb kd_T_link_17 rfl (lv_at hl 3 rfl) ?_
  refine lv_iload_n hx hb kd_T_link_18 rfl (lv_at hl 1 rfl) ?_
  refine lv_iconst (v := 1) hx hb kd_T_link_19 (by decide) ?_
  refine lv_iadd hx hb kd_T_link_20 ?_
  refine lv_aload_n hx hb kd_T_link_21 rfl (lv_at hl 2 rfl) ?_
  refine va_get (D := (dC, dI)) (ci := 4) (v := .ref (a 4)) (C := "FileTree") (T := ft_T) (N := 5) hx hb hts fi_T hown hK hP 0 rfl rfl 3 (by decide) (hts _ q_210) (fun _ h9 => h9) rfl kd_T_link_22 ?_
  refine lv_iload_n hx hb kd_T_link_25 rfl (lv_at hl 1 rfl) ?_
  refine lv_iconst (v := 1) hx hb kd_T_link_26 (by decide) ?_
  refine lv_iadd hx hb kd_T_link_27 ?_
  refine lv_aload_n hx hb kd_T_link_28 rfl (lv_at hl 2 rfl) ?_
  refine va_get (D := (dC, dI)) (ci := 4) (v := .ref (a 4)) (C := "FileTree") (T := ft_T) (N := 5) hx hb hts fi_T hown hK hP 0 rfl rfl 3 (by decide) (hts _ q_210) (fun _ h9 => h9) rfl kd_T_link_29 ?_
  refine va_get (D := (dC, dI)) (ci := 3) (v := .int (r2.2 6 0)) (C := "FileTree$Text") (T := ft_X) (N := 4) hx hb hts fi_X hown hK hP 4 rfl rfl 3 (by decide) (hts _ q_70) (fun _ h9 => h9) rfl kd_T_link_32 ?_
  obtain ⟨r3, e_r3, hF⟩ := fb_ob hF
  refine fb_callV (As := [.int (r1.1 + (1 : Int32)), .int (r2.2 6 0)]) (rest := [.int (r1.1 + (1 : Int32)), .int x1, .ref (a 0)]) ⟨hx, hb, hml, hown, hts⟩ zX_mv hZ hK hP hD hS hA (c_X_cutLastName l dC dI dA a z (r1.1 + (1 : Int32)) (r2.2 6 0) r2.2 r3 e_r3) (cwV 2 hts (gd_V q_280 ko_X_cutLastName) rfl rfl rfl kh_X_cutLastName ⟨Nat.le_of_ble_eq_true rfl, Nat.le_of_ble_eq_true rfl⟩) 3 4 rfl rfl rfl rfl hl.1 rfl (Nat.le_of_ble_eq_true rfl) kd_T_link_35 ⟨Nat.zero_le _, Nat.zero_le _⟩ (fun H locs hP hD hS => ?_)
  refine W.eq (g2 := F0 m 38 ls [.int r3.1, .int (r1.1 + (1 : Int32)), .int x1, .ref (a 0)]) rfl ?_
  obtain ⟨r4, e_r4, hF⟩ := fb_ob hF
  refine fb_callV (As := [.int x1, .int (r1.1 + (1 : Int32)), .int r3.1]) (rest := []) ⟨hx, hb, hml, hown, hts⟩ zX_mv hZ hK hP hD hS hA (c_T_lead l dC dI dA a z x1 (r1.1 + (1 : Int32)) r3.1 r3.2 r4 e_r4) (cwV 3 hts (gd_V q_236 ko_T_lead) rfl rfl rfl kh_T_lead ⟨Nat.le_of_ble_eq_true rfl, Nat.le_of_ble_eq_true rfl⟩) 4 0 rfl rfl rfl rfl hl.1 rfl (Nat.le_of_ble_eq_true rfl) kd_T_link_38 ⟨Nat.zero_le _, Nat.zero_le _⟩ (fun H locs hP hD hS => ?_)
  refine W.eq (g2 := F0 m 41 ls [.int r4.1]) rfl ?_
  refine lv_istore (lv' := [(4, .int r4.1), (3, .int r2.1), (2, .int r1.1), (0, .ref (a 0)), (1, .int x1)]) hx hb kd_T_link_41 hl (by decide) rfl (fun ls hl => ?_)
  refine lv_aload_n hx hb kd_T_link_43 rfl (lv_at hl 3 rfl) ?_
  refine va_get (D := (dC, dI)) (ci := 4) (v := .ref (a 4)) (C := "FileTree") (T := ft_T) (N := 5) hx hb hts fi_T hown hK hP 0 rfl rfl 3 (by decide) (hts _ q_210) (fun _ h9 => h9) rfl kd_T_link_44 ?_
  obtain ⟨r5, e_r5, hF⟩ := fb_ob hF
  refine fb_callV (As := []) (rest := []) ⟨hx, hb, hml, hown, hts⟩ zX_mv hZ hK hP hD hS hA (c_X_empty l dC dI dA a z r4.2 r5 e_r5) (cwV 0 hts (gd_V q_272 ko_X_empty) rfl rfl rfl kh_X_empty ⟨Nat.le_of_ble_eq_true rfl, Nat.le_of_ble_eq_true rfl⟩) 3 4 rfl rfl rfl rfl hl.1 rfl (Nat.le_of_ble_eq_true rfl) kd_T_link_47 ⟨Nat.zero_le _, Nat.zero_le _⟩ (fun H locs hP hD hS => ?_)
  refine W.eq (g2 := F0 m 50 ls []) rfl ?_
  refine lv_iload_n hx hb kd_T_link_50 rfl (lv_at hl 1 rfl) ?_
  refine lv_iconst (v := (-1)) hx hb kd_T_link_51 (by decide) ?_
  refine lv_icmp_eq (tgt := 61) hx hb kd_T_link_52 (by decide) (fun c6 => ?_) (fun c6 => ?_)
  · rw [if_pos c6] at hF
    refine lv_iconst (v := (-1)) hx hb kd_T_link_61 (by decide) ?_
    exact fb_ri (o := o) hx hb hr hlocks hK hP hD hS hF kd_T_link_62
  · rw [if_neg c6] at hF
    refine lv_iload hx hb kd_T_link_55 (lv_at hl 0 rfl) ?_
    refine lv_iconst (v := (-1)) hx hb kd_T_link_57 (by decide) ?_
    refine lv_icmp_ne (tgt := 63) hx hb kd_T_link_58 (by decide) (fun c7 => ?_) (fun c7 => ?_)
    · rw [if_neg c7] at hF
      refine lv_aload_n hx hb kd_T_link_63 rfl (lv_at hl 3 rfl) ?_
      refine va_get (D := (dC, dI)) (ci := 4) (v := .ref (a 2)) (C := "FileTree") (T := ft_T) (N := 5) hx hb hts fi_T hown hK hP 0 rfl rfl 1 (by decide) (hts _ q_208) (fun _ h9 => h9) rfl kd_T_link_64 ?_
      refine lv_iload_n hx hb kd_T_link_67 rfl (lv_at hl 1 rfl) ?_
      obtain ⟨r8, e_r8, hF⟩ := fb_ob hF
      refine fb_callV (As := [.int r2.1]) (rest := []) ⟨hx, hb, hml, hown, hts⟩ zX_mv hZ hK hP hD hS hA (c_I_kindOf l dC dI dA a z r2.1 r5.2 r8 e_r8) (cwV 1 hts (gd_V q_287 ko_I_kindOf) rfl rfl rfl kh_I_kindOf ⟨Nat.le_of_ble_eq_true rfl, Nat.le_of_ble_eq_true rfl⟩) 2 2 rfl rfl rfl rfl hl.1 rfl (Nat.le_of_ble_eq_true rfl) kd_T_link_68 ⟨Nat.zero_le _, Nat.zero_le _⟩ (fun H locs hP hD hS => ?_)
      refine W.eq (g2 := F0 m 71 ls [.int r8.1]) rfl ?_
      refine lv_iconst (v := 1) hx hb kd_T_link_71 (by decide) ?_
      refine lv_icmp_eq (tgt := 89) hx hb kd_T_link_72 (by decide) (fun c9 => ?_) (fun c9 => ?_)
      · rw [if_pos c9] at hF
        refine lv_iconst (v := (-1)) hx hb kd_T_link_89 (by decide) ?_
        exact fb_ri (o := o) hx hb hr hlocks hK hP hD hS hF kd_T_link_90
      · rw [if_neg c9] at hF
        refine lv_aload_n hx hb kd_T_link_75 rfl (lv_at hl 3 rfl) ?_
        refine va_get (D := (dC, dI)) (ci := 4) (v := .ref (a 2)) (C := "FileTree") (T := ft_T) (N := 5) hx hb hts fi_T hown hK hP 0 rfl rfl 1 (by decide) (hts _ q_208) (fun _ h9 => h9) rfl kd_T_link_76 ?_
        refine lv_iload_n hx hb kd_T_link_79 rfl (lv_at hl 1 rfl) ?_
        obtain ⟨r10, e_r10, hF⟩ := fb_ob hF
        refine fb_callV (As := [.int r2.1]) (rest := []) ⟨hx, hb, hml, hown, hts⟩ zX_mv hZ hK hP hD hS hA (c_I_linksOf l dC dI dA a z r2.1 r8.2 r10 e_r10) (cwV 1 hts (gd_V q_310 ko_I_linksOf) rfl rfl rfl kh_I_linksOf ⟨Nat.le_of_ble_eq_true rfl, Nat.le_of_ble_eq_true rfl⟩) 2 2 rfl rfl rfl rfl hl.1 rfl (Nat.le_of_ble_eq_true rfl) kd_T_link_80 ⟨Nat.zero_le _, Nat.zero_le _⟩ (fun H locs hP hD hS => ?_)
        refine W.eq (g2 := F0 m 83 ls [.int r10.1]) rfl ?_
        refine lv_sipush (v := 32767) hx hb kd_T_link_83 (by decide) ?_
        refine lv_icmp_lt (tgt := 91) hx hb kd_T_link_86 (by decide) (fun c11 => ?_) (fun c11 => ?_)
        · rw [if_pos c11] at hF
          refine lv_aload_n hx hb kd_T_link_91 rfl (lv_at hl 3 rfl) ?_
          refine va_get (D := (dC, dI)) (ci := 4) (v := .ref (a 1)) (C := "FileTree") (T := ft_T) (N := 5) hx hb hts fi_T hown hK hP 0 rfl rfl 0 (by decide) (hts _ q_207) (fun _ h9 => h9) rfl kd_T_link_92 ?_
          refine lv_iload hx hb kd_T_link_95 (lv_at hl 0 rfl) ?_
          refine lv_aload_n hx hb kd_T_link_97 rfl (lv_at hl 3 rfl) ?_
          refine va_get (D := (dC, dI)) (ci := 4) (v := .ref (a 4)) (C := "FileTree") (T := ft_T) (N := 5) hx hb hts fi_T hown hK hP 0 rfl rfl 3 (by decide) (hts _ q_210) (fun _ h9 => h9) rfl kd_T_link_98 ?_
          refine va_get (D := (dC, dI)) (ci := 3) (v := .ref (a 9)) (C := "FileTree$Text") (T := ft_X) (N := 4) hx hb hts fi_X hown hK hP 4 rfl rfl 2 (by decide) (hts _ q_68) (fun _ h9 => h9) rfl kd_T_link_101 ?_
          obtain ⟨r12, e_r12, hF⟩ := fb_ob hF
          refine fb_callV (As := [.int r4.1, .ref (a 9)]) (rest := []) ⟨hx, hb, hml, hown, hts⟩ zX_mv hZ hK hP hD hS hA (c_D_entryNamed_last l dC dI dA a z r4.1 r10.2 r12 e_r12) (cwV 2 hts (gd_V q_262 ko_D_entryNamed) rfl rfl rfl kh_D_entryNamed ⟨Nat.le_of_ble_eq_true rfl, Nat.le_of_ble_eq_true rfl⟩) 0 1 rfl rfl rfl rfl hl.1 rfl (Nat.le_of_ble_eq_true rfl) kd_T_link_104 ⟨Nat.zero_le _, Nat.zero_le _⟩ (fun H locs hP hD hS => ?_)
          refine W.eq (g2 := F0 m 107 ls [.int r12.1]) rfl ?_
          refine lv_iconst (v := (-1)) hx hb kd_T_link_107 (by decide) ?_
          refine lv_icmp_ne (tgt := 124) hx hb kd_T_link_108 (by decide) (fun c13 => ?_) (fun c13 => ?_)
          · rw [if_neg c13] at hF
            refine lv_iconst (v := (-1)) hx hb kd_T_link_124 (by decide) ?_
            exact fb_ri (o := o) hx hb hr hlocks hK hP hD hS hF kd_T_link_125
          · rw [if_pos c13] at hF
            refine lv_aload_n hx hb kd_T_link_111 rfl (lv_at hl 3 rfl) ?_
            refine va_get (D := (dC, dI)) (ci := 4) (v := .ref (a 1)) (C := "FileTree") (T := ft_T) (N := 5) hx hb hts fi_T hown hK hP 0 rfl rfl 0 (by decide) (hts _ q_207) (fun _ h9 => h9) rfl kd_T_link_112 ?_
            refine lv_iload hx hb kd_T_link_115 (lv_at hl 0 rfl) ?_
            refine lv_iconst (v := 0) hx hb kd_T_link_117 (by decide) ?_
            obtain ⟨r14, e_r14, hF⟩ := fb_ob hF
            refine fb_callV (As := [.int r4.1, .int (0 : Int32)]) (rest := []) ⟨hx, hb, hml, hown, hts⟩ zX_mv hZ hK hP hD hS hA (c_D_hasRoom l dC dI dA a z r4.1 (0 : Int32) r12.2 r14 e_r14) (cwV 2 hts (gd_V q_293 ko_D_hasRoom) rfl rfl rfl kh_D_hasRoom ⟨Nat.le_of_ble_eq_true rfl, Nat.le_of_ble_eq_true rfl⟩) 0 1 rfl rfl rfl rfl hl.1 rfl (Nat.le_of_ble_eq_true rfl) kd_T_link_118 ⟨Nat.zero_le _, Nat.zero_le _⟩ (fun H locs hP hD hS => ?_)
            refine W.eq (g2 := F0 m 121 ls [.int r14.1]) rfl ?_
            refine lv_if_ne (tgt := 126) hx hb kd_T_link_121 (by decide) (fun c15 => ?_) (fun c15 => ?_)
            · rw [if_neg c15] at hF
              refine lv_aload_n hx hb kd_T_link_126 rfl (lv_at hl 3 rfl) ?_
              refine va_get (D := (dC, dI)) (ci := 4) (v := .ref (a 1)) (C := "FileTree") (T := ft_T) (N := 5) hx hb hts fi_T hown hK hP 0 rfl rfl 0 (by decide) (hts _ q_207) (fun _ h9 => h9) rfl kd_T_link_127 ?_
              refine lv_iload hx hb kd_T_link_130 (lv_at hl 0 rfl) ?_
              refine lv_aload_n hx hb kd_T_link_132 rfl (lv_at hl 3 rfl) ?_
              refine va_get (D := (dC, dI)) (ci := 4) (v := .ref (a 4)) (C := "FileTree") (T := ft_T) (N := 5) hx hb hts fi_T hown hK hP 0 rfl rfl 3 (by decide) (hts _ q_210) (fun _ h9 => h9) rfl kd_T_link_133 ?_
              refine va_get (D := (dC, dI)) (ci := 3) (v := .ref (a 9)) (C := "FileTree$Text") (T := ft_X) (N := 4) hx hb hts fi_X hown hK hP 4 rfl rfl 2 (by decide) (hts _ q_68) (fun _ h9 => h9) rfl kd_T_link_136 ?_
              refine lv_iload_n hx hb kd_T_link_139 rfl (lv_at hl 1 rfl) ?_
              obtain ⟨r16, e_r16, hF⟩ := fb_ob hF
              refine fb_callV (As := [.int r4.1, .ref (a 9), .int r2.1]) (rest := []) ⟨hx, hb, hml, hown, hts⟩ zX_mv hZ hK hP hD hS hA (c_D_addEntry_last l dC dI dA a z r4.1 r2.1 r14.2 r16 e_r16) (cwV 3 hts (gd_V q_301 ko_D_addEntry) rfl rfl rfl kh_D_addEntry ⟨Nat.le_of_ble_eq_true rfl, Nat.le_of_ble_eq_true rfl⟩) 0 1 rfl rfl rfl rfl hl.1 rfl (Nat.le_of_ble_eq_true rfl) kd_T_link_140 ⟨Nat.zero_le _, Nat.zero_le _⟩ (fun H locs hP hD hS => ?_)
              refine W.eq (g2 := F0 m 143 ls []) rfl ?_
              refine lv_aload_n hx hb kd_T_link_143 rfl (lv_at hl 3 rfl) ?_
              refine va_get (D := (dC, dI)) (ci := 4) (v := .ref (a 2)) (C := "FileTree") (T := ft_T) (N := 5) hx hb hts fi_T hown hK hP 0 rfl rfl 1 (by decide) (hts _ q_208) (fun _ h9 => h9) rfl kd_T_link_144 ?_
              refine lv_iload_n hx hb kd_T_link_147 rfl (lv_at hl 1 rfl) ?_
              refine lv_iconst (v := 1) hx hb kd_T_link_148 (by decide) ?_
              obtain ⟨r17, e_r17, hF⟩ := fb_ob hF
              refine fb_callV (As := [.int r2.1, .int (1 : Int32)]) (rest := []) ⟨hx, hb, hml, hown, hts⟩ zX_mv hZ hK hP hD hS hA (c_I_addLinks l dC dI dA a z r2.1 (1 : Int32) r16.2 r17 e_r17) (cwV 2 hts (gd_V q_311 ko_I_addLinks) rfl rfl rfl kh_I_addLinks ⟨Nat.le_of_ble_eq_true rfl, Nat.le_of_ble_eq_true rfl⟩) 2 2 rfl rfl rfl rfl hl.1 rfl (Nat.le_of_ble_eq_true rfl) kd_T_link_149 ⟨Nat.zero_le _, Nat.zero_le _⟩ (fun H locs hP hD hS => ?_)
              refine W.eq (g2 := F0 m 152 ls []) rfl ?_
              refine lv_iload_n hx hb kd_T_link_152 rfl (lv_at hl 1 rfl) ?_
              exact fb_ri (o := o) hx hb hr hlocks hK hP hD hS hF kd_T_link_153
            · rw [if_pos c15] at hF
              refine lv_iconst (v := (-1)) hx hb kd_T_link_124 (by decide) ?_
              exact fb_ri (o := o) hx hb hr hlocks hK hP hD hS hF kd_T_link_125
        · rw [if_neg c11] at hF
          refine lv_iconst (v := (-1)) hx hb kd_T_link_89 (by decide) ?_
          exact fb_ri (o := o) hx hb hr hlocks hK hP hD hS hF kd_T_link_90
    · rw [if_pos c7] at hF
      refine lv_iconst (v := (-1)) hx hb kd_T_link_61 (by decide) ?_
      exact fb_ri (o := o) hx hb hr hlocks hK hP hD hS hF kd_T_link_62
theorem c_T_link (l : Launch) (dC : Nat → ClassId) (dI : Nat → Nat → Nat) (dA : Nat → ClassId) (a : Nat → Nat) (z : Nat → Nat) (x1 : Int32) (st : fb_S) (o : Int32 × fb_S) (h : f_T_link x1 st = some o) : fb_M l ky_T_link kw_T_link rm_T_link (dC, dI) vcl (tX dA) (wX dA a) (zX z) [.ref (a 0), .int x1] (some (.int o.1)) st o.2 := fb_enter (by decide) rfl (Nat.le_of_ble_eq_true rfl) (fun p e s m below meth c A CX hP hD hS ls hl => w_T_link_0 CX o x1 st h s.heap [] hP hD hS ls hl)
abbrev rm_X_lastIsDots : Room := { frames := 0, cells := 0, slots := 0, locals := 0 }
def b_X_lastIsDots_40 (st : fb_S) : Option (Int32 × fb_S) := fb_rz (1 : Int32) st
set_option maxHeartbeats 4000000 in
set_option maxRecDepth 100000 in
theorem w_X_lastIsDots_40 {p : Program} {l : Launch} {e : Env} {s : State} {m : MethodId} {args : Array Value} {below : List Frame} {meth : Method} {c : Code} {A : Nat → Prop} {dC : Nat → ClassId} {dI : Nat → Nat → Nat} {dA : Nat → ClassId} {a : Nat → Nat} {z : Nat → Nat} (CX : fb_C p s m args meth c kc_X_lastIsDots (some .boolean) 1 "FileTree$Text" (dC, dI) vcl (tX dA) A (zX z)) (o : Int32 × fb_S) (st : fb_S) (hF : b_X_lastIsDots_40 st = some o) : fb_G p l e (headSpec kw_X_lastIsDots rm_X_lastIsDots).room s m args below meth c (dC, dI) vcl (tX dA) (wX dA a) A (some (.int o.1)) o.2 40 1 [] [] st := by
  intro H locs hP hD hS ls hl
  obtain ⟨hx, hb, hr, hml, hown, hts, hK, hA, hlocks, hZ⟩ := id CX
  unfold b_X_lastIsDots_40 at hF
  refine lv_iconst (v := 1) hx hb kd_X_lastIsDots_40 (by decide) ?_
  refine lv_goto (tgt := 45) hx hb kd_X_lastIsDots_41 (by decide) ?_
  exact fb_rb (o := o) hx hb hr hlocks hK hP hD hS hF kd_X_lastIsDots_45
def f_X_lastIsDots (st : fb_S) : Option (Int32 × fb_S) := (fb_ld (st 4) 14 (0 : Int32)).bind fun v1 => (if v1 = (46 : Int32) then (fb_ld (st 4) 14 (1 : Int32)).bind fun v3 => (if v3 = (0 : Int32) then b_X_lastIsDots_40 st else (fb_ld (st 4) 14 (1 : Int32)).bind fun v5 => (if v5 = (46 : Int32) then (fb_ld (st 4) 14 (2 : Int32)).bind fun v7 => (if v7 = (0 : Int32) then b_X_lastIsDots_40 st else fb_rz (0 : Int32) st) else fb_rz (0 : Int32) st)) else fb_rz (0 : Int32) st)
set_option maxHeartbeats 4000000 in
set_option maxRecDepth 100000 in
theorem w_X_lastIsDots_0 {p : Program} {l : Launch} {e : Env} {s : State} {m : MethodId} {args : Array Value} {below : List Frame} {meth : Method} {c : Code} {A : Nat → Prop} {dC : Nat → ClassId} {dI : Nat → Nat → Nat} {dA : Nat → ClassId} {a : Nat → Nat} {z : Nat → Nat} (CX : fb_C p s m args meth c kc_X_lastIsDots (some .boolean) 1 "FileTree$Text" (dC, dI) vcl (tX dA) A (zX z)) (o : Int32 × fb_S) (st : fb_S) (hF : f_X_lastIsDots st = some o) : fb_G p l e (headSpec kw_X_lastIsDots rm_X_lastIsDots).room s m args below meth c (dC, dI) vcl (tX dA) (wX dA a) A (some (.int o.1)) o.2 0 1 [(0, .ref (a 4))] [] st := by
  intro H locs hP hD hS ls hl
  obtain ⟨hx, hb, hr, hml, hown, hts, hK, hA, hlocks, hZ⟩ := id CX
  unfold f_X_lastIsDots at hF
  refine lv_aload_n hx hb kd_X_lastIsDots_0 rfl (lv_at hl 0 rfl) ?_
  refine va_get (D := (dC, dI)) (ci := 3) (v := .ref (a 9)) (C := "FileTree$Text") (T := ft_X) (N := 4) hx hb hts fi_X hown hK hP 4 rfl rfl 2 (by decide) (hts _ q_67) (fun _ h9 => h9) rfl kd_X_lastIsDots_1 ?_
  refine lv_iconst (v := 0) hx hb kd_X_lastIsDots_4 (by decide) ?_
  obtain ⟨v1, e_v1, hF⟩ := fb_ob hF
  refine fb_bald hx hb hK hP 9 1 rfl rfl e_v1 kd_X_lastIsDots_5 ?_
  refine lv_bipush (v := 46) hx hb kd_X_lastIsDots_6 (by decide) ?_
  refine lv_icmp_ne (tgt := 44) hx hb kd_X_lastIsDots_8 (by decide) (fun c2 => ?_) (fun c2 => ?_)
  · rw [if_neg c2] at hF
    refine lv_iconst (v := 0) hx hb kd_X_lastIsDots_44 (by decide) ?_
    exact fb_rb (o := o) hx hb hr hlocks hK hP hD hS hF kd_X_lastIsDots_45
  · rw [if_pos c2] at hF
    refine lv_aload_n hx hb kd_X_lastIsDots_11 rfl (lv_at hl 0 rfl) ?_
    refine va_get (D := (dC, dI)) (ci := 3) (v := .ref (a 9)) (C := "FileTree$Text") (T := ft_X) (N := 4) hx hb hts fi_X hown hK hP 4 rfl rfl 2 (by decide) (hts _ q_67) (fun _ h9 => h9) rfl kd_X_lastIsDots_12 ?_
    refine lv_iconst (v := 1) hx hb kd_X_lastIsDots_15 (by decide) ?_
    obtain ⟨v3, e_v3, hF⟩ := fb_ob hF
    refine fb_bald hx hb hK hP 9 1 rfl rfl e_v3 kd_X_lastIsDots_16 ?_
    refine lv_if_eq (tgt := 40) hx hb kd_X_lastIsDots_17 (by decide) (fun c4 => ?_) (fun c4 => ?_)
    · rw [if_pos c4] at hF
      exact w_X_lastIsDots_40 CX o st hF H locs hP hD hS ls (lv_sub hl [] rfl)
    · rw [if_neg c4] at hF
      refine lv_aload_n hx hb kd_X_lastIsDots_20 rfl (lv_at hl 0 rfl) ?_
      refine va_get (D := (dC, dI)) (ci := 3) (v := .ref (a 9)) (C := "FileTree$Text") (T := ft_X) (N := 4) hx hb hts fi_X hown hK hP 4 rfl rfl 2 (by decide) (hts _ q_67) (fun _ h9 => h9) rfl kd_X_lastIsDots_21 ?_
      refine lv_iconst (v := 1) hx hb kd_X_lastIsDots_24 (by decide) ?_
      obtain ⟨v5, e_v5, hF⟩ := fb_ob hF
      refine fb_bald hx hb hK hP 9 1 rfl rfl e_v5 kd_X_lastIsDots_25 ?_
      refine lv_bipush (v := 46) hx hb kd_X_lastIsDots_26 (by decide) ?_
      refine lv_icmp_ne (tgt := 44) hx hb kd_X_lastIsDots_28 (by decide) (fun c6 => ?_) (fun c6 => ?_)
      · rw [if_neg c6] at hF
        refine lv_iconst (v := 0) hx hb kd_X_lastIsDots_44 (by decide) ?_
        exact fb_rb (o := o) hx hb hr hlocks hK hP hD hS hF kd_X_lastIsDots_45
      · rw [if_pos c6] at hF
        refine lv_aload_n hx hb kd_X_lastIsDots_31 rfl (lv_at hl 0 rfl) ?_
        refine va_get (D := (dC, dI)) (ci := 3) (v := .ref (a 9)) (C := "FileTree$Text") (T := ft_X) (N := 4) hx hb hts fi_X hown hK hP 4 rfl rfl 2 (by decide) (hts _ q_67) (fun _ h9 => h9) rfl kd_X_lastIsDots_32 ?_
        refine lv_iconst (v := 2) hx hb kd_X_lastIsDots_35 (by decide) ?_
        obtain ⟨v7, e_v7, hF⟩ := fb_ob hF
        refine fb_bald hx hb hK hP 9 1 rfl rfl e_v7 kd_X_lastIsDots_36 ?_
        refine lv_if_ne (tgt := 44) hx hb kd_X_lastIsDots_37 (by decide) (fun c8 => ?_) (fun c8 => ?_)
        · rw [if_neg c8] at hF
          refine lv_iconst (v := 0) hx hb kd_X_lastIsDots_44 (by decide) ?_
          exact fb_rb (o := o) hx hb hr hlocks hK hP hD hS hF kd_X_lastIsDots_45
        · rw [if_pos c8] at hF
          exact w_X_lastIsDots_40 CX o st hF H locs hP hD hS ls (lv_sub hl [] rfl)
theorem c_X_lastIsDots (l : Launch) (dC : Nat → ClassId) (dI : Nat → Nat → Nat) (dA : Nat → ClassId) (a : Nat → Nat) (z : Nat → Nat) (st : fb_S) (o : Int32 × fb_S) (h : f_X_lastIsDots st = some o) : fb_M l ky_X_lastIsDots kw_X_lastIsDots rm_X_lastIsDots (dC, dI) vcl (tX dA) (wX dA a) (zX z) [.ref (a 4)] (some (.int o.1)) st o.2 := fb_enter (by decide) rfl (Nat.le_of_ble_eq_true rfl) (fun p e s m below meth c A CX hP hD hS ls hl => w_X_lastIsDots_0 CX o st h s.heap [] hP hD hS ls hl)
abbrev rm_D_wipeEntry : Room := { frames := 2, cells := 0, slots := 0, locals := 46 }
def f_D_wipeEntry (x1 : Int32) (st : fb_S) : Option (Int32 × fb_S) := (f_K_wipe x1 (16 : Int32) st).bind fun r1 => some (0, r1.2)
set_option maxHeartbeats 4000000 in
set_option maxRecDepth 100000 in
theorem w_D_wipeEntry_0 {p : Program} {l : Launch} {e : Env} {s : State} {m : MethodId} {args : Array Value} {below : List Frame} {meth : Method} {c : Code} {A : Nat → Prop} {dC : Nat → ClassId} {dI : Nat → Nat → Nat} {dA : Nat → ClassId} {a : Nat → Nat} {z : Nat → Nat} (CX : fb_C p s m args meth c kc_D_wipeEntry none 2 "FileTree$Directories" (dC, dI) vcl (tX dA) A (zX z)) (o : Int32 × fb_S) (x1 : Int32) (st : fb_S) (hF : f_D_wipeEntry x1 st = some o) : fb_G p l e (headSpec kw_D_wipeEntry rm_D_wipeEntry).room s m args below meth c (dC, dI) vcl (tX dA) (wX dA a) A none o.2 0 2 [(0, .ref (a 1)), (1, .int x1)] [] st := by
  intro H locs hP hD hS ls hl
  obtain ⟨hx, hb, hr, hml, hown, hts, hK, hA, hlocks, hZ⟩ := id CX
  unfold f_D_wipeEntry at hF
  refine lv_aload_n hx hb kd_D_wipeEntry_0 rfl (lv_at hl 0 rfl) ?_
  refine va_get (D := (dC, dI)) (ci := 0) (v := .ref (a 3)) (C := "FileTree$Directories") (T := ft_D) (N := 2) hx hb hts fi_D hown hK hP 1 rfl rfl 1 (by decide) (hts _ q_52) (fun _ h9 => h9) rfl kd_D_wipeEntry_1 ?_
  refine lv_iload_n hx hb kd_D_wipeEntry_4 rfl (lv_at hl 1 rfl) ?_
  refine lv_bipush (v := 16) hx hb kd_D_wipeEntry_5 (by decide) ?_
  obtain ⟨r1, e_r1, hF⟩ := fb_ob hF
  refine fb_callV (As := [.int x1, .int (16 : Int32)]) (rest := []) ⟨hx, hb, hml, hown, hts⟩ zX_mv hZ hK hP hD hS hA (c_K_wipe l dC dI dA a z x1 (16 : Int32) st r1 e_r1) (cwV 2 hts (gd_V q_332 ko_K_wipe) rfl rfl rfl kh_K_wipe ⟨Nat.le_of_ble_eq_true rfl, Nat.le_of_ble_eq_true rfl⟩) 1 3 rfl rfl rfl rfl hl.1 rfl (Nat.le_of_ble_eq_true rfl) kd_D_wipeEntry_7 ⟨Nat.zero_le _, Nat.zero_le _⟩ (fun H locs hP hD hS => ?_)
  refine W.eq (g2 := F0 m 10 ls []) rfl ?_
  exact fb_rv (o := o) hx hb hr hlocks hK hP hD hS hF kd_D_wipeEntry_10
theorem c_D_wipeEntry (l : Launch) (dC : Nat → ClassId) (dI : Nat → Nat → Nat) (dA : Nat → ClassId) (a : Nat → Nat) (z : Nat → Nat) (x1 : Int32) (st : fb_S) (o : Int32 × fb_S) (h : f_D_wipeEntry x1 st = some o) : fb_M l ky_D_wipeEntry kw_D_wipeEntry rm_D_wipeEntry (dC, dI) vcl (tX dA) (wX dA a) (zX z) [.ref (a 1), .int x1] none st o.2 := fb_enter (by decide) rfl (Nat.le_of_ble_eq_true rfl) (fun p e s m below meth c A CX hP hD hS ls hl => w_D_wipeEntry_0 CX o x1 st h s.heap [] hP hD hS ls hl)
abbrev rm_I_heldOf : Room := { frames := 1, cells := 0, slots := 0, locals := 21 }
def f_I_heldOf (x1 : Int32) (st : fb_S) : Option (Int32 × fb_S) := (f_I_isInode x1 st).bind fun r1 => (if r1.1 = (0 : Int32) then some ((0 : Int32), r1.2) else (fb_ld (r1.2 1) 64 x1).bind fun v3 => some (v3, r1.2))
set_option maxHeartbeats 4000000 in
set_option maxRecDepth 100000 in
theorem w_I_heldOf_0 {p : Program} {l : Launch} {e : Env} {s : State} {m : MethodId} {args : Array Value} {below : List Frame} {meth : Method} {c : Code} {A : Nat → Prop} {dC : Nat → ClassId} {dI : Nat → Nat → Nat} {dA : Nat → ClassId} {a : Nat → Nat} {z : Nat → Nat} (CX : fb_C p s m args meth c kc_I_heldOf (some .int) 2 "FileTree$Inodes" (dC, dI) vcl (tX dA) A (zX z)) (o : Int32 × fb_S) (x1 : Int32) (st : fb_S) (hF : f_I_heldOf x1 st = some o) : fb_G p l e (headSpec kw_I_heldOf rm_I_heldOf).room s m args below meth c (dC, dI) vcl (tX dA) (wX dA a) A (some (.int o.1)) o.2 0 2 [(0, .ref (a 2)), (1, .int x1)] [] st := by
  intro H locs hP hD hS ls hl
  obtain ⟨hx, hb, hr, hml, hown, hts, hK, hA, hlocks, hZ⟩ := id CX
  unfold f_I_heldOf at hF
  refine lv_aload_n hx hb kd_I_heldOf_0 rfl (lv_at hl 0 rfl) ?_
  refine lv_iload_n hx hb kd_I_heldOf_1 rfl (lv_at hl 1 rfl) ?_
  obtain ⟨r1, e_r1, hF⟩ := fb_ob hF
  refine fb_callV (As := [.int x1]) (rest := []) ⟨hx, hb, hml, hown, hts⟩ zX_mv hZ hK hP hD hS hA (c_I_isInode l dC dI dA a z x1 st r1 e_r1) (cwV 1 hts (gd_V q_108 ko_I_isInode) rfl rfl rfl kh_I_isInode ⟨Nat.le_of_ble_eq_true rfl, Nat.le_of_ble_eq_true rfl⟩) 2 2 rfl rfl rfl rfl hl.1 rfl (Nat.le_of_ble_eq_true rfl) kd_I_heldOf_2 ⟨Nat.zero_le _, Nat.zero_le _⟩ (fun H locs hP hD hS => ?_)
  refine W.eq (g2 := F0 m 5 ls [.int r1.1]) rfl ?_
  refine lv_if_eq (tgt := 17) hx hb kd_I_heldOf_5 (by decide) (fun c2 => ?_) (fun c2 => ?_)
  · rw [if_pos c2] at hF
    refine lv_iconst (v := 0) hx hb kd_I_heldOf_17 (by decide) ?_
    exact fb_ri (o := o) hx hb hr hlocks hK hP hD hS hF kd_I_heldOf_18
  · rw [if_neg c2] at hF
    refine lv_aload_n hx hb kd_I_heldOf_8 rfl (lv_at hl 0 rfl) ?_
    refine va_get (D := (dC, dI)) (ci := 2) (v := .ref (a 6)) (C := "FileTree$Inodes") (T := ft_I) (N := 2) hx hb hts fi_I hown hK hP 2 rfl rfl 1 (by decide) (hts _ q_44) (fun _ h9 => h9) rfl kd_I_heldOf_9 ?_
    refine lv_iload_n hx hb kd_I_heldOf_12 rfl (lv_at hl 1 rfl) ?_
    obtain ⟨v3, e_v3, hF⟩ := fb_ob hF
    refine fb_iald hx hb hK hP 6 0 rfl rfl e_v3 kd_I_heldOf_13 ?_
    refine lv_goto (tgt := 18) hx hb kd_I_heldOf_14 (by decide) ?_
    exact fb_ri (o := o) hx hb hr hlocks hK hP hD hS hF kd_I_heldOf_18
theorem c_I_heldOf (l : Launch) (dC : Nat → ClassId) (dI : Nat → Nat → Nat) (dA : Nat → ClassId) (a : Nat → Nat) (z : Nat → Nat) (x1 : Int32) (st : fb_S) (o : Int32 × fb_S) (h : f_I_heldOf x1 st = some o) : fb_M l ky_I_heldOf kw_I_heldOf rm_I_heldOf (dC, dI) vcl (tX dA) (wX dA a) (zX z) [.ref (a 2), .int x1] (some (.int o.1)) st o.2 := fb_enter (by decide) rfl (Nat.le_of_ble_eq_true rfl) (fun p e s m below meth c A CX hP hD hS ls hl => w_I_heldOf_0 CX o x1 st h s.heap [] hP hD hS ls hl)
abbrev rm_K_giveBlock : Room := { frames := 2, cells := 0, slots := 0, locals := 50 }
def f_K_giveBlock (x1 : Int32) (st : fb_S) : Option (Int32 × fb_S) := (if x1 < (38 : Int32) then some (0, st) else (if (512 : Int32) ≤ x1 then some (0, st) else (f_K_mark x1 (0 : Int32) st).bind fun r3 => some (0, r3.2)))
set_option maxHeartbeats 4000000 in
set_option maxRecDepth 100000 in
theorem w_K_giveBlock_0 {p : Program} {l : Launch} {e : Env} {s : State} {m : MethodId} {args : Array Value} {below : List Frame} {meth : Method} {c : Code} {A : Nat → Prop} {dC : Nat → ClassId} {dI : Nat → Nat → Nat} {dA : Nat → ClassId} {a : Nat → Nat} {z : Nat → Nat} (CX : fb_C p s m args meth c kc_K_giveBlock none 2 "FileTree$Disk" (dC, dI) vcl (tX dA) A (zX z)) (o : Int32 × fb_S) (x1 : Int32) (st : fb_S) (hF : f_K_giveBlock x1 st = some o) : fb_G p l e (headSpec kw_K_giveBlock rm_K_giveBlock).room s m args below meth c (dC, dI) vcl (tX dA) (wX dA a) A none o.2 0 2 [(0, .ref (a 3)), (1, .int x1)] [] st := by
  intro H locs hP hD hS ls hl
  obtain ⟨hx, hb, hr, hml, hown, hts, hK, hA, hlocks, hZ⟩ := id CX
  unfold f_K_giveBlock at hF
  refine lv_iload_n hx hb kd_K_giveBlock_0 rfl (lv_at hl 1 rfl) ?_
  refine lv_bipush (v := 38) hx hb kd_K_giveBlock_1 (by decide) ?_
  refine lv_icmp_lt (tgt := 19) hx hb kd_K_giveBlock_3 (by decide) (fun c1 => ?_) (fun c1 => ?_)
  · rw [if_pos c1] at hF
    exact fb_rv (o := o) hx hb hr hlocks hK hP hD hS hF kd_K_giveBlock_19
  · rw [if_neg c1] at hF
    refine lv_iload_n hx hb kd_K_giveBlock_6 rfl (lv_at hl 1 rfl) ?_
    refine lv_sipush (v := 512) hx hb kd_K_giveBlock_7 (by decide) ?_
    refine lv_icmp_ge (tgt := 19) hx hb kd_K_giveBlock_10 (by decide) (fun c2 => ?_) (fun c2 => ?_)
    · rw [if_pos c2] at hF
      exact fb_rv (o := o) hx hb hr hlocks hK hP hD hS hF kd_K_giveBlock_19
    · rw [if_neg c2] at hF
      refine lv_aload_n hx hb kd_K_giveBlock_13 rfl (lv_at hl 0 rfl) ?_
      refine lv_iload_n hx hb kd_K_giveBlock_14 rfl (lv_at hl 1 rfl) ?_
      refine lv_iconst (v := 0) hx hb kd_K_giveBlock_15 (by decide) ?_
      obtain ⟨r3, e_r3, hF⟩ := fb_ob hF
      refine fb_callV (As := [.int x1, .int (0 : Int32)]) (rest := []) ⟨hx, hb, hml, hown, hts⟩ zX_mv hZ hK hP hD hS hA (c_K_mark l dC dI dA a z x1 (0 : Int32) st r3 e_r3) (cwV 2 hts (gd_V q_91 ko_K_mark) rfl rfl rfl kh_K_mark ⟨Nat.le_of_ble_eq_true rfl, Nat.le_of_ble_eq_true rfl⟩) 1 3 rfl rfl rfl rfl hl.1 rfl (Nat.le_of_ble_eq_true rfl) kd_K_giveBlock_16 ⟨Nat.zero_le _, Nat.zero_le _⟩ (fun H locs hP hD hS => ?_)
      refine W.eq (g2 := F0 m 19 ls []) rfl ?_
      exact fb_rv (o := o) hx hb hr hlocks hK hP hD hS hF kd_K_giveBlock_19
theorem c_K_giveBlock (l : Launch) (dC : Nat → ClassId) (dI : Nat → Nat → Nat) (dA : Nat → ClassId) (a : Nat → Nat) (z : Nat → Nat) (x1 : Int32) (st : fb_S) (o : Int32 × fb_S) (h : f_K_giveBlock x1 st = some o) : fb_M l ky_K_giveBlock kw_K_giveBlock rm_K_giveBlock (dC, dI) vcl (tX dA) (wX dA a) (zX z) [.ref (a 3), .int x1] none st o.2 := fb_enter (by decide) rfl (Nat.le_of_ble_eq_true rfl) (fun p e s m below meth c A CX hP hD hS ls hl => w_K_giveBlock_0 CX o x1 st h s.heap [] hP hD hS ls hl)
abbrev rm_I_dropBlocks : Room := { frames := 3, cells := 0, slots := 0, locals := 71 }
def b_I_dropBlocks_11 (k11 : Int32 → Int32 → fb_S → Option (Int32 × fb_S)) (x1 : Int32) (x2 : Int32) (st : fb_S) : Option (Int32 × fb_S) := (if (268 : Int32) ≤ x2 then (f_I_placeOf x1 st).bind fun r2 => (f_K_numberAt (r2.1 + (60 : Int32)) r2.2).bind fun r3 => (f_K_giveBlock r3.1 r3.2).bind fun r4 => (f_I_placeOf x1 r4.2).bind fun r5 => (f_K_wipe (r5.1 + (12 : Int32)) (52 : Int32) r5.2).bind fun r6 => some (0, r6.2) else (f_I_slotOf x1 x2 st).bind fun r7 => (f_K_numberAt r7.1 r7.2).bind fun r8 => (f_K_giveBlock r8.1 r8.2).bind fun r9 => k11 x1 (x2 + (1 : Int32)) r9.2)
set_option maxHeartbeats 4000000 in
set_option maxRecDepth 100000 in
theorem w_I_dropBlocks_11 {p : Program} {l : Launch} {e : Env} {s : State} {m : MethodId} {args : Array Value} {below : List Frame} {meth : Method} {c : Code} {A : Nat → Prop} {dC : Nat → ClassId} {dI : Nat → Nat → Nat} {dA : Nat → ClassId} {a : Nat → Nat} {z : Nat → Nat} (CX : fb_C p s m args meth c kc_I_dropBlocks none 3 "FileTree$Inodes" (dC, dI) vcl (tX dA) A (zX z)) (o : Int32 × fb_S) (k11 : Int32 → Int32 → fb_S → Option (Int32 × fb_S)) (hk11 : ∀ (x1 : Int32) (x2 : Int32) (st : fb_S), k11 x1 x2 st = some o → fb_G p l e (headSpec kw_I_dropBlocks rm_I_dropBlocks).room s m args below meth c (dC, dI) vcl (tX dA) (wX dA a) A none o.2 11 3 [(0, .ref (a 2)), (1, .int x1), (2, .int x2)] [] st) (x1 : Int32) (x2 : Int32) (st : fb_S) (hF : b_I_dropBlocks_11 k11 x1 x2 st = some o) : fb_G p l e (headSpec kw_I_dropBlocks rm_I_dropBlocks).room s m args below meth c (dC, dI) vcl (tX dA) (wX dA a) A none o.2 11 3 [(0, .ref (a 2)), (1, .int x1), (2, .int x2)] [] st := by
  intro H locs hP hD hS ls hl
  obtain ⟨hx, hb, hr, hml, hown, hts, hK, hA, hlocks, hZ⟩ := id CX
  unfold b_I_dropBlocks_11 at hF
  refine lv_iload_n hx hb kd_I_dropBlocks_11 rfl (lv_at hl 2 rfl) ?_
  refine lv_sipush (v := 268) hx hb kd_I_dropBlocks_12 (by decide) ?_
  refine lv_icmp_ge (tgt := 44) hx hb kd_I_dropBlocks_15 (by decide) (fun c1 => ?_) (fun c1 => ?_)
  · rw [if_pos c1] at hF
    refine lv_aload_n hx hb kd_I_dropBlocks_44 rfl (lv_at hl 0 rfl) ?_
    refine va_get (D := (dC, dI)) (ci := 2) (v := .ref (a 3)) (C := "FileTree$Inodes") (T := ft_I) (N := 2) hx hb hts fi_I hown hK hP 2 rfl rfl 0 (by decide) (hts _ q_41) (fun _ h9 => h9) rfl kd_I_dropBlocks_45 ?_
    refine lv_aload_n hx hb kd_I_dropBlocks_48 rfl (lv_at hl 0 rfl) ?_
    refine va_get (D := (dC, dI)) (ci := 2) (v := .ref (a 3)) (C := "FileTree$Inodes") (T := ft_I) (N := 2) hx hb hts fi_I hown hK hP 2 rfl rfl 0 (by decide) (hts _ q_41) (fun _ h9 => h9) rfl kd_I_dropBlocks_49 ?_
    refine lv_aload_n hx hb kd_I_dropBlocks_52 rfl (lv_at hl 0 rfl) ?_
    refine lv_iload_n hx hb kd_I_dropBlocks_53 rfl (lv_at hl 1 rfl) ?_
    obtain ⟨r2, e_r2, hF⟩ := fb_ob hF
    refine fb_callV (As := [.int x1]) (rest := [.ref (a 3), .ref (a 3)]) ⟨hx, hb, hml, hown, hts⟩ zX_mv hZ hK hP hD hS hA (c_I_placeOf l dC dI dA a z x1 st r2 e_r2) (cwV 1 hts (gd_V q_112 ko_I_placeOf) rfl rfl rfl kh_I_placeOf ⟨Nat.le_of_ble_eq_true rfl, Nat.le_of_ble_eq_true rfl⟩) 2 2 rfl rfl rfl rfl hl.1 rfl (Nat.le_of_ble_eq_true rfl) kd_I_dropBlocks_54 ⟨Nat.zero_le _, Nat.zero_le _⟩ (fun H locs hP hD hS => ?_)
    refine W.eq (g2 := F0 m 57 ls [.int r2.1, .ref (a 3), .ref (a 3)]) rfl ?_
    refine lv_bipush (v := 60) hx hb kd_I_dropBlocks_57 (by decide) ?_
    refine lv_iadd hx hb kd_I_dropBlocks_59 ?_
    obtain ⟨r3, e_r3, hF⟩ := fb_ob hF
    refine fb_callV (As := [.int (r2.1 + (60 : Int32))]) (rest := [.ref (a 3)]) ⟨hx, hb, hml, hown, hts⟩ zX_mv hZ hK hP hD hS hA (c_K_numberAt l dC dI dA a z (r2.1 + (60 : Int32)) r2.2 r3 e_r3) (cwV 1 hts (gd_V q_146 ko_K_numberAt) rfl rfl rfl kh_K_numberAt ⟨Nat.le_of_ble_eq_true rfl, Nat.le_of_ble_eq_true rfl⟩) 1 3 rfl rfl rfl rfl hl.1 rfl (Nat.le_of_ble_eq_true rfl) kd_I_dropBlocks_60 ⟨Nat.zero_le _, Nat.zero_le _⟩ (fun H locs hP hD hS => ?_)
    refine W.eq (g2 := F0 m 63 ls [.int r3.1, .ref (a 3)]) rfl ?_
    obtain ⟨r4, e_r4, hF⟩ := fb_ob hF
    refine fb_callV (As := [.int r3.1]) (rest := []) ⟨hx, hb, hml, hown, hts⟩ zX_mv hZ hK hP hD hS hA (c_K_giveBlock l dC dI dA a z r3.1 r3.2 r4 e_r4) (cwV 1 hts (gd_V q_346 ko_K_giveBlock) rfl rfl rfl kh_K_giveBlock ⟨Nat.le_of_ble_eq_true rfl, Nat.le_of_ble_eq_true rfl⟩) 1 3 rfl rfl rfl rfl hl.1 rfl (Nat.le_of_ble_eq_true rfl) kd_I_dropBlocks_63 ⟨Nat.zero_le _, Nat.zero_le _⟩ (fun H locs hP hD hS => ?_)
    refine W.eq (g2 := F0 m 66 ls []) rfl ?_
    refine lv_aload_n hx hb kd_I_dropBlocks_66 rfl (lv_at hl 0 rfl) ?_
    refine va_get (D := (dC, dI)) (ci := 2) (v := .ref (a 3)) (C := "FileTree$Inodes") (T := ft_I) (N := 2) hx hb hts fi_I hown hK hP 2 rfl rfl 0 (by decide) (hts _ q_41) (fun _ h9 => h9) rfl kd_I_dropBlocks_67 ?_
    refine lv_aload_n hx hb kd_I_dropBlocks_70 rfl (lv_at hl 0 rfl) ?_
    refine lv_iload_n hx hb kd_I_dropBlocks_71 rfl (lv_at hl 1 rfl) ?_
    obtain ⟨r5, e_r5, hF⟩ := fb_ob hF
    refine fb_callV (As := [.int x1]) (rest := [.ref (a 3)]) ⟨hx, hb, hml, hown, hts⟩ zX_mv hZ hK hP hD hS hA (c_I_placeOf l dC dI dA a z x1 r4.2 r5 e_r5) (cwV 1 hts (gd_V q_112 ko_I_placeOf) rfl rfl rfl kh_I_placeOf ⟨Nat.le_of_ble_eq_true rfl, Nat.le_of_ble_eq_true rfl⟩) 2 2 rfl rfl rfl rfl hl.1 rfl (Nat.le_of_ble_eq_true rfl) kd_I_dropBlocks_72 ⟨Nat.zero_le _, Nat.zero_le _⟩ (fun H locs hP hD hS => ?_)
    refine W.eq (g2 := F0 m 75 ls [.int r5.1, .ref (a 3)]) rfl ?_
    refine lv_bipush (v := 12) hx hb kd_I_dropBlocks_75 (by decide) ?_
    refine lv_iadd hx hb kd_I_dropBlocks_77 ?_
    refine lv_bipush (v := 52) hx hb kd_I_dropBlocks_78 (by decide) ?_
    obtain ⟨r6, e_r6, hF⟩ := fb_ob hF
    refine fb_callV (As := [.int (r5.1 + (12 : Int32)), .int (52 : Int32)]) (rest := []) ⟨hx, hb, hml, hown, hts⟩ zX_mv hZ hK hP hD hS hA (c_K_wipe l dC dI dA a z (r5.1 + (12 : Int32)) (52 : Int32) r5.2 r6 e_r6) (cwV 2 hts (gd_V q_350 ko_K_wipe) rfl rfl rfl kh_K_wipe ⟨Nat.le_of_ble_eq_true rfl, Nat.le_of_ble_eq_true rfl⟩) 1 3 rfl rfl rfl rfl hl.1 rfl (Nat.le_of_ble_eq_true rfl) kd_I_dropBlocks_80 ⟨Nat.zero_le _, Nat.zero_le _⟩ (fun H locs hP hD hS => ?_)
    refine W.eq (g2 := F0 m 83 ls []) rfl ?_
    exact fb_rv (o := o) hx hb hr hlocks hK hP hD hS hF kd_I_dropBlocks_83
  · rw [if_neg c1] at hF
    refine lv_aload_n hx hb kd_I_dropBlocks_18 rfl (lv_at hl 0 rfl) ?_
    refine va_get (D := (dC, dI)) (ci := 2) (v := .ref (a 3)) (C := "FileTree$Inodes") (T := ft_I) (N := 2) hx hb hts fi_I hown hK hP 2 rfl rfl 0 (by decide) (hts _ q_41) (fun _ h9 => h9) rfl kd_I_dropBlocks_19 ?_
    refine lv_aload_n hx hb kd_I_dropBlocks_22 rfl (lv_at hl 0 rfl) ?_
    refine va_get (D := (dC, dI)) (ci := 2) (v := .ref (a 3)) (C := "FileTree$Inodes") (T := ft_I) (N := 2) hx hb hts fi_I hown hK hP 2 rfl rfl 0 (by decide) (hts _ q_41) (fun _ h9 => h9) rfl kd_I_dropBlocks_23 ?_
    refine lv_aload_n hx hb kd_I_dropBlocks_26 rfl (lv_at hl 0 rfl) ?_
    refine lv_iload_n hx hb kd_I_dropBlocks_27 rfl (lv_at hl 1 rfl) ?_
    refine lv_iload_n hx hb kd_I_dropBlocks_28 rfl (lv_at hl 2 rfl) ?_
    obtain ⟨r7, e_r7, hF⟩ := fb_ob hF
    refine fb_callV (As := [.int x1, .int x2]) (rest := [.ref (a 3), .ref (a 3)]) ⟨hx, hb, hml, hown, hts⟩ zX_mv hZ hK hP hD hS hA (c_I_slotOf l dC dI dA a z x1 x2 st r7 e_r7) (cwV 2 hts (gd_V q_154 ko_I_slotOf) rfl rfl rfl kh_I_slotOf ⟨Nat.le_of_ble_eq_true rfl, Nat.le_of_ble_eq_true rfl⟩) 2 2 rfl rfl rfl rfl hl.1 rfl (Nat.le_of_ble_eq_true rfl) kd_I_dropBlocks_29 ⟨Nat.zero_le _, Nat.zero_le _⟩ (fun H locs hP hD hS => ?_)
    refine W.eq (g2 := F0 m 32 ls [.int r7.1, .ref (a 3), .ref (a 3)]) rfl ?_
    obtain ⟨r8, e_r8, hF⟩ := fb_ob hF
    refine fb_callV (As := [.int r7.1]) (rest := [.ref (a 3)]) ⟨hx, hb, hml, hown, hts⟩ zX_mv hZ hK hP hD hS hA (c_K_numberAt l dC dI dA a z r7.1 r7.2 r8 e_r8) (cwV 1 hts (gd_V q_146 ko_K_numberAt) rfl rfl rfl kh_K_numberAt ⟨Nat.le_of_ble_eq_true rfl, Nat.le_of_ble_eq_true rfl⟩) 1 3 rfl rfl rfl rfl hl.1 rfl (Nat.le_of_ble_eq_true rfl) kd_I_dropBlocks_32 ⟨Nat.zero_le _, Nat.zero_le _⟩ (fun H locs hP hD hS => ?_)
    refine W.eq (g2 := F0 m 35 ls [.int r8.1, .ref (a 3)]) rfl ?_
    obtain ⟨r9, e_r9, hF⟩ := fb_ob hF
    refine fb_callV (As := [.int r8.1]) (rest := []) ⟨hx, hb, hml, hown, hts⟩ zX_mv hZ hK hP hD hS hA (c_K_giveBlock l dC dI dA a z r8.1 r8.2 r9 e_r9) (cwV 1 hts (gd_V q_346 ko_K_giveBlock) rfl rfl rfl kh_K_giveBlock ⟨Nat.le_of_ble_eq_true rfl, Nat.le_of_ble_eq_true rfl⟩) 1 3 rfl rfl rfl rfl hl.1 rfl (Nat.le_of_ble_eq_true rfl) kd_I_dropBlocks_35 ⟨Nat.zero_le _, Nat.zero_le _⟩ (fun H locs hP hD hS => ?_)
    refine W.eq (g2 := F0 m 38 ls []) rfl ?_
    refine lv_iinc (v := x2 + (1 : Int32)) (lv' := [(2, .int (x2 + (1 : Int32))), (0, .ref (a 2)), (1, .int x1)]) hx hb kd_I_dropBlocks_38 hl (k := 2) rfl rfl (by decide) rfl (fun ls hl => ?_)
    refine lv_goto (tgt := 11) hx hb kd_I_dropBlocks_41 (by decide) ?_
    exact hk11 x1 (x2 + (1 : Int32)) r9.2 hF H locs hP hD hS ls (lv_sub hl [1, 2, 0] rfl)
def l_I_dropBlocks_11 : Nat → Int32 → Int32 → fb_S → Option (Int32 × fb_S)
  | 0 => fun _ _ _ => none
  | n + 1 => b_I_dropBlocks_11 (l_I_dropBlocks_11 n)
theorem v_I_dropBlocks_11 {p : Program} {l : Launch} {e : Env} {s : State} {m : MethodId} {args : Array Value} {below : List Frame} {meth : Method} {c : Code} {A : Nat → Prop} {dC : Nat → ClassId} {dI : Nat → Nat → Nat} {dA : Nat → ClassId} {a : Nat → Nat} {z : Nat → Nat} (CX : fb_C p s m args meth c kc_I_dropBlocks none 3 "FileTree$Inodes" (dC, dI) vcl (tX dA) A (zX z)) (o : Int32 × fb_S) (n : Nat) : ∀ (x1 : Int32) (x2 : Int32) (st : fb_S), l_I_dropBlocks_11 n x1 x2 st = some o → fb_G p l e (headSpec kw_I_dropBlocks rm_I_dropBlocks).room s m args below meth c (dC, dI) vcl (tX dA) (wX dA a) A none o.2 11 3 [(0, .ref (a 2)), (1, .int x1), (2, .int x2)] [] st := by
  induction n with
  | zero => intro x1 x2 st hF; cases hF
  | succ n ih => intro x1 x2 st hF; exact w_I_dropBlocks_11 CX o (l_I_dropBlocks_11 n) ih x1 x2 st hF
def f_I_dropBlocks (x1 : Int32) (st : fb_S) : Option (Int32 × fb_S) := (f_I_isInode x1 st).bind fun r1 => (if r1.1 = (0 : Int32) then some (0, r1.2) else l_I_dropBlocks_11 fb_n x1 (0 : Int32) r1.2)
set_option maxHeartbeats 4000000 in
set_option maxRecDepth 100000 in
theorem w_I_dropBlocks_0 {p : Program} {l : Launch} {e : Env} {s : State} {m : MethodId} {args : Array Value} {below : List Frame} {meth : Method} {c : Code} {A : Nat → Prop} {dC : Nat → ClassId} {dI : Nat → Nat → Nat} {dA : Nat → ClassId} {a : Nat → Nat} {z : Nat → Nat} (CX : fb_C p s m args meth c kc_I_dropBlocks none 3 "FileTree$Inodes" (dC, dI) vcl (tX dA) A (zX z)) (o : Int32 × fb_S) (x1 : Int32) (st : fb_S) (hF : f_I_dropBlocks x1 st = some o) : fb_G p l e (headSpec kw_I_dropBlocks rm_I_dropBlocks).room s m args below meth c (dC, dI) vcl (tX dA) (wX dA a) A none o.2 0 3 [(0, .ref (a 2)), (1, .int x1)] [] st := by
  intro H locs hP hD hS ls hl
  obtain ⟨hx, hb, hr, hml, hown, hts, hK, hA, hlocks, hZ⟩ := id CX
  unfold f_I_dropBlocks at hF
  refine lv_aload_n hx hb kd_I_dropBlocks_0 rfl (lv_at hl 0 rfl) ?_
  refine lv_iload_n hx hb kd_I_dropBlocks_1 rfl (lv_at hl 1 rfl) ?_
  obtain ⟨r1, e_r1, hF⟩ := fb_ob hF
  refine fb_callV (As := [.int x1]) (rest := []) ⟨hx, hb, hml, hown, hts⟩ zX_mv hZ hK hP hD hS hA (c_I_isInode l dC dI dA a z x1 st r1 e_r1) (cwV 1 hts (gd_V q_108 ko_I_isInode) rfl rfl rfl kh_I_isInode ⟨Nat.le_of_ble_eq_true rfl, Nat.le_of_ble_eq_true rfl⟩) 2 2 rfl rfl rfl rfl hl.1 rfl (Nat.le_of_ble_eq_true rfl) kd_I_dropBlocks_2 ⟨Nat.zero_le _, Nat.zero_le _⟩ (fun H locs hP hD hS => ?_)
  refine W.eq (g2 := F0 m 5 ls [.int r1.1]) rfl ?_
  refine lv_if_ne (tgt := 9) hx hb kd_I_dropBlocks_5 (by decide) (fun c2 => ?_) (fun c2 => ?_)
  · rw [if_neg c2] at hF
    refine lv_iconst (v := 0) hx hb kd_I_dropBlocks_9 (by decide) ?_
    refine lv_istore_n (lv' := [(2, .int (0 : Int32)), (0, .ref (a 2)), (1, .int x1)]) hx hb kd_I_dropBlocks_10 rfl hl (by decide) rfl (fun ls hl => ?_)
    exact v_I_dropBlocks_11 CX o fb_n x1 (0 : Int32) r1.2 hF H locs hP hD hS ls (lv_sub hl [1, 2, 0] rfl)
  · rw [if_pos c2] at hF
    exact fb_rv (o := o) hx hb hr hlocks hK hP hD hS hF kd_I_dropBlocks_8
theorem c_I_dropBlocks (l : Launch) (dC : Nat → ClassId) (dI : Nat → Nat → Nat) (dA : Nat → ClassId) (a : Nat → Nat) (z : Nat → Nat) (x1 : Int32) (st : fb_S) (o : Int32 × fb_S) (h : f_I_dropBlocks x1 st = some o) : fb_M l ky_I_dropBlocks kw_I_dropBlocks rm_I_dropBlocks (dC, dI) vcl (tX dA) (wX dA a) (zX z) [.ref (a 2), .int x1] none st o.2 := fb_enter (by decide) rfl (Nat.le_of_ble_eq_true rfl) (fun p e s m below meth c A CX hP hD hS ls hl => w_I_dropBlocks_0 CX o x1 st h s.heap [] hP hD hS ls hl)
abbrev rm_I_freeIfLeft : Room := { frames := 4, cells := 0, slots := 0, locals := 93 }
def f_I_freeIfLeft (x1 : Int32) (st : fb_S) : Option (Int32 × fb_S) := (f_I_inUse x1 st).bind fun r1 => (if r1.1 = (0 : Int32) then fb_rz (0 : Int32) r1.2 else (f_I_linksOf x1 r1.2).bind fun r3 => (if r3.1 = (0 : Int32) then (f_I_heldOf x1 r3.2).bind fun r5 => (if r5.1 = (0 : Int32) then (f_I_dropBlocks x1 r5.2).bind fun r7 => (f_I_placeOf x1 r7.2).bind fun r8 => (f_K_wipe r8.1 (64 : Int32) r8.2).bind fun r9 => fb_rz (1 : Int32) r9.2 else fb_rz (0 : Int32) r5.2) else fb_rz (0 : Int32) r3.2))
set_option maxHeartbeats 4000000 in
set_option maxRecDepth 100000 in
theorem w_I_freeIfLeft_0 {p : Program} {l : Launch} {e : Env} {s : State} {m : MethodId} {args : Array Value} {below : List Frame} {meth : Method} {c : Code} {A : Nat → Prop} {dC : Nat → ClassId} {dI : Nat → Nat → Nat} {dA : Nat → ClassId} {a : Nat → Nat} {z : Nat → Nat} (CX : fb_C p s m args meth c kc_I_freeIfLeft (some .boolean) 2 "FileTree$Inodes" (dC, dI) vcl (tX dA) A (zX z)) (o : Int32 × fb_S) (x1 : Int32) (st : fb_S) (hF : f_I_freeIfLeft x1 st = some o) : fb_G p l e (headSpec kw_I_freeIfLeft rm_I_freeIfLeft).room s m args below meth c (dC, dI) vcl (tX dA) (wX dA a) A (some (.int o.1)) o.2 0 2 [(0, .ref (a 2)), (1, .int x1)] [] st := by
  intro H locs hP hD hS ls hl
  obtain ⟨hx, hb, hr, hml, hown, hts, hK, hA, hlocks, hZ⟩ := id CX
  unfold f_I_freeIfLeft at hF
  refine lv_aload_n hx hb kd_I_freeIfLeft_0 rfl (lv_at hl 0 rfl) ?_
  refine lv_iload_n hx hb kd_I_freeIfLeft_1 rfl (lv_at hl 1 rfl) ?_
  obtain ⟨r1, e_r1, hF⟩ := fb_ob hF
  refine fb_callV (As := [.int x1]) (rest := []) ⟨hx, hb, hml, hown, hts⟩ zX_mv hZ hK hP hD hS hA (c_I_inUse l dC dI dA a z x1 st r1 e_r1) (cwV 1 hts (gd_V q_292 ko_I_inUse) rfl rfl rfl kh_I_inUse ⟨Nat.le_of_ble_eq_true rfl, Nat.le_of_ble_eq_true rfl⟩) 2 2 rfl rfl rfl rfl hl.1 rfl (Nat.le_of_ble_eq_true rfl) kd_I_freeIfLeft_2 ⟨Nat.zero_le _, Nat.zero_le _⟩ (fun H locs hP hD hS => ?_)
  refine W.eq (g2 := F0 m 5 ls [.int r1.1]) rfl ?_
  refine lv_if_eq (tgt := 24) hx hb kd_I_freeIfLeft_5 (by decide) (fun c2 => ?_) (fun c2 => ?_)
  · rw [if_pos c2] at hF
    refine lv_iconst (v := 0) hx hb kd_I_freeIfLeft_24 (by decide) ?_
    exact fb_rb (o := o) hx hb hr hlocks hK hP hD hS hF kd_I_freeIfLeft_25
  · rw [if_neg c2] at hF
    refine lv_aload_n hx hb kd_I_freeIfLeft_8 rfl (lv_at hl 0 rfl) ?_
    refine lv_iload_n hx hb kd_I_freeIfLeft_9 rfl (lv_at hl 1 rfl) ?_
    obtain ⟨r3, e_r3, hF⟩ := fb_ob hF
    refine fb_callV (As := [.int x1]) (rest := []) ⟨hx, hb, hml, hown, hts⟩ zX_mv hZ hK hP hD hS hA (c_I_linksOf l dC dI dA a z x1 r1.2 r3 e_r3) (cwV 1 hts (gd_V q_203 ko_I_linksOf) rfl rfl rfl kh_I_linksOf ⟨Nat.le_of_ble_eq_true rfl, Nat.le_of_ble_eq_true rfl⟩) 2 2 rfl rfl rfl rfl hl.1 rfl (Nat.le_of_ble_eq_true rfl) kd_I_freeIfLeft_10 ⟨Nat.zero_le _, Nat.zero_le _⟩ (fun H locs hP hD hS => ?_)
    refine W.eq (g2 := F0 m 13 ls [.int r3.1]) rfl ?_
    refine lv_if_ne (tgt := 24) hx hb kd_I_freeIfLeft_13 (by decide) (fun c4 => ?_) (fun c4 => ?_)
    · rw [if_neg c4] at hF
      refine lv_iconst (v := 0) hx hb kd_I_freeIfLeft_24 (by decide) ?_
      exact fb_rb (o := o) hx hb hr hlocks hK hP hD hS hF kd_I_freeIfLeft_25
    · rw [if_pos c4] at hF
      refine lv_aload_n hx hb kd_I_freeIfLeft_16 rfl (lv_at hl 0 rfl) ?_
      refine lv_iload_n hx hb kd_I_freeIfLeft_17 rfl (lv_at hl 1 rfl) ?_
      obtain ⟨r5, e_r5, hF⟩ := fb_ob hF
      refine fb_callV (As := [.int x1]) (rest := []) ⟨hx, hb, hml, hown, hts⟩ zX_mv hZ hK hP hD hS hA (c_I_heldOf l dC dI dA a z x1 r3.2 r5 e_r5) (cwV 1 hts (gd_V q_338 ko_I_heldOf) rfl rfl rfl kh_I_heldOf ⟨Nat.le_of_ble_eq_true rfl, Nat.le_of_ble_eq_true rfl⟩) 2 2 rfl rfl rfl rfl hl.1 rfl (Nat.le_of_ble_eq_true rfl) kd_I_freeIfLeft_18 ⟨Nat.zero_le _, Nat.zero_le _⟩ (fun H locs hP hD hS => ?_)
      refine W.eq (g2 := F0 m 21 ls [.int r5.1]) rfl ?_
      refine lv_if_eq (tgt := 26) hx hb kd_I_freeIfLeft_21 (by decide) (fun c6 => ?_) (fun c6 => ?_)
      · rw [if_pos c6] at hF
        refine lv_aload_n hx hb kd_I_freeIfLeft_26 rfl (lv_at hl 0 rfl) ?_
        refine lv_iload_n hx hb kd_I_freeIfLeft_27 rfl (lv_at hl 1 rfl) ?_
        obtain ⟨r7, e_r7, hF⟩ := fb_ob hF
        refine fb_callV (As := [.int x1]) (rest := []) ⟨hx, hb, hml, hown, hts⟩ zX_mv hZ hK hP hD hS hA (c_I_dropBlocks l dC dI dA a z x1 r5.2 r7 e_r7) (cwV 1 hts (gd_V q_342 ko_I_dropBlocks) rfl rfl rfl kh_I_dropBlocks ⟨Nat.le_of_ble_eq_true rfl, Nat.le_of_ble_eq_true rfl⟩) 2 2 rfl rfl rfl rfl hl.1 rfl (Nat.le_of_ble_eq_true rfl) kd_I_freeIfLeft_28 ⟨Nat.zero_le _, Nat.zero_le _⟩ (fun H locs hP hD hS => ?_)
        refine W.eq (g2 := F0 m 31 ls []) rfl ?_
        refine lv_aload_n hx hb kd_I_freeIfLeft_31 rfl (lv_at hl 0 rfl) ?_
        refine va_get (D := (dC, dI)) (ci := 2) (v := .ref (a 3)) (C := "FileTree$Inodes") (T := ft_I) (N := 2) hx hb hts fi_I hown hK hP 2 rfl rfl 0 (by decide) (hts _ q_41) (fun _ h9 => h9) rfl kd_I_freeIfLeft_32 ?_
        refine lv_aload_n hx hb kd_I_freeIfLeft_35 rfl (lv_at hl 0 rfl) ?_
        refine lv_iload_n hx hb kd_I_freeIfLeft_36 rfl (lv_at hl 1 rfl) ?_
        obtain ⟨r8, e_r8, hF⟩ := fb_ob hF
        refine fb_callV (As := [.int x1]) (rest := [.ref (a 3)]) ⟨hx, hb, hml, hown, hts⟩ zX_mv hZ hK hP hD hS hA (c_I_placeOf l dC dI dA a z x1 r7.2 r8 e_r8) (cwV 1 hts (gd_V q_112 ko_I_placeOf) rfl rfl rfl kh_I_placeOf ⟨Nat.le_of_ble_eq_true rfl, Nat.le_of_ble_eq_true rfl⟩) 2 2 rfl rfl rfl rfl hl.1 rfl (Nat.le_of_ble_eq_true rfl) kd_I_freeIfLeft_37 ⟨Nat.zero_le _, Nat.zero_le _⟩ (fun H locs hP hD hS => ?_)
        refine W.eq (g2 := F0 m 40 ls [.int r8.1, .ref (a 3)]) rfl ?_
        refine lv_bipush (v := 64) hx hb kd_I_freeIfLeft_40 (by decide) ?_
        obtain ⟨r9, e_r9, hF⟩ := fb_ob hF
        refine fb_callV (As := [.int r8.1, .int (64 : Int32)]) (rest := []) ⟨hx, hb, hml, hown, hts⟩ zX_mv hZ hK hP hD hS hA (c_K_wipe l dC dI dA a z r8.1 (64 : Int32) r8.2 r9 e_r9) (cwV 2 hts (gd_V q_350 ko_K_wipe) rfl rfl rfl kh_K_wipe ⟨Nat.le_of_ble_eq_true rfl, Nat.le_of_ble_eq_true rfl⟩) 1 3 rfl rfl rfl rfl hl.1 rfl (Nat.le_of_ble_eq_true rfl) kd_I_freeIfLeft_42 ⟨Nat.zero_le _, Nat.zero_le _⟩ (fun H locs hP hD hS => ?_)
        refine W.eq (g2 := F0 m 45 ls []) rfl ?_
        refine lv_iconst (v := 1) hx hb kd_I_freeIfLeft_45 (by decide) ?_
        exact fb_rb (o := o) hx hb hr hlocks hK hP hD hS hF kd_I_freeIfLeft_46
      · rw [if_neg c6] at hF
        refine lv_iconst (v := 0) hx hb kd_I_freeIfLeft_24 (by decide) ?_
        exact fb_rb (o := o) hx hb hr hlocks hK hP hD hS hF kd_I_freeIfLeft_25
theorem c_I_freeIfLeft (l : Launch) (dC : Nat → ClassId) (dI : Nat → Nat → Nat) (dA : Nat → ClassId) (a : Nat → Nat) (z : Nat → Nat) (x1 : Int32) (st : fb_S) (o : Int32 × fb_S) (h : f_I_freeIfLeft x1 st = some o) : fb_M l ky_I_freeIfLeft kw_I_freeIfLeft rm_I_freeIfLeft (dC, dI) vcl (tX dA) (wX dA a) (zX z) [.ref (a 2), .int x1] (some (.int o.1)) st o.2 := fb_enter (by decide) rfl (Nat.le_of_ble_eq_true rfl) (fun p e s m below meth c A CX hP hD hS ls hl => w_I_freeIfLeft_0 CX o x1 st h s.heap [] hP hD hS ls hl)
abbrev rm_D_hasOnlyItsTwo : Room := { frames := 3, cells := 0, slots := 0, locals := 68 }
def b_D_hasOnlyItsTwo_9 (k9 : Int32 → Int32 → Int32 → fb_S → Option (Int32 × fb_S)) (x1 : Int32) (x2 : Int32) (x3 : Int32) (st : fb_S) : Option (Int32 × fb_S) := (if x2 ≤ x3 then fb_rz (1 : Int32) st else (f_I_placeOfByte x1 x3 st).bind fun r2 => (f_K_partAt r2.1 (65535 : Int32) r2.2).bind fun r3 => (if r3.1 = (0 : Int32) then k9 x1 x2 (x3 + (16 : Int32)) r3.2 else fb_rz (0 : Int32) r3.2))
set_option maxHeartbeats 4000000 in
set_option maxRecDepth 100000 in
theorem w_D_hasOnlyItsTwo_9 {p : Program} {l : Launch} {e : Env} {s : State} {m : MethodId} {args : Array Value} {below : List Frame} {meth : Method} {c : Code} {A : Nat → Prop} {dC : Nat → ClassId} {dI : Nat → Nat → Nat} {dA : Nat → ClassId} {a : Nat → Nat} {z : Nat → Nat} (CX : fb_C p s m args meth c kc_D_hasOnlyItsTwo (some .boolean) 4 "FileTree$Directories" (dC, dI) vcl (tX dA) A (zX z)) (o : Int32 × fb_S) (k9 : Int32 → Int32 → Int32 → fb_S → Option (Int32 × fb_S)) (hk9 : ∀ (x1 : Int32) (x2 : Int32) (x3 : Int32) (st : fb_S), k9 x1 x2 x3 st = some o → fb_G p l e (headSpec kw_D_hasOnlyItsTwo rm_D_hasOnlyItsTwo).room s m args below meth c (dC, dI) vcl (tX dA) (wX dA a) A (some (.int o.1)) o.2 9 4 [(0, .ref (a 1)), (1, .int x1), (2, .int x2), (3, .int x3)] [] st) (x1 : Int32) (x2 : Int32) (x3 : Int32) (st : fb_S) (hF : b_D_hasOnlyItsTwo_9 k9 x1 x2 x3 st = some o) : fb_G p l e (headSpec kw_D_hasOnlyItsTwo rm_D_hasOnlyItsTwo).room s m args below meth c (dC, dI) vcl (tX dA) (wX dA a) A (some (.int o.1)) o.2 9 4 [(0, .ref (a 1)), (1, .int x1), (2, .int x2), (3, .int x3)] [] st := by
  intro H locs hP hD hS ls hl
  obtain ⟨hx, hb, hr, hml, hown, hts, hK, hA, hlocks, hZ⟩ := id CX
  unfold b_D_hasOnlyItsTwo_9 at hF
  refine lv_iload_n hx hb kd_D_hasOnlyItsTwo_9 rfl (lv_at hl 3 rfl) ?_
  refine lv_iload_n hx hb kd_D_hasOnlyItsTwo_10 rfl (lv_at hl 2 rfl) ?_
  refine lv_icmp_ge (tgt := 43) hx hb kd_D_hasOnlyItsTwo_11 (by decide) (fun c1 => ?_) (fun c1 => ?_)
  · rw [if_pos c1] at hF
    refine lv_iconst (v := 1) hx hb kd_D_hasOnlyItsTwo_43 (by decide) ?_
    exact fb_rb (o := o) hx hb hr hlocks hK hP hD hS hF kd_D_hasOnlyItsTwo_44
  · rw [if_neg c1] at hF
    refine lv_aload_n hx hb kd_D_hasOnlyItsTwo_14 rfl (lv_at hl 0 rfl) ?_
    refine va_get (D := (dC, dI)) (ci := 0) (v := .ref (a 3)) (C := "FileTree$Directories") (T := ft_D) (N := 2) hx hb hts fi_D hown hK hP 1 rfl rfl 1 (by decide) (hts _ q_52) (fun _ h9 => h9) rfl kd_D_hasOnlyItsTwo_15 ?_
    refine lv_aload_n hx hb kd_D_hasOnlyItsTwo_18 rfl (lv_at hl 0 rfl) ?_
    refine va_get (D := (dC, dI)) (ci := 0) (v := .ref (a 2)) (C := "FileTree$Directories") (T := ft_D) (N := 2) hx hb hts fi_D hown hK hP 1 rfl rfl 0 (by decide) (hts _ q_50) (fun _ h9 => h9) rfl kd_D_hasOnlyItsTwo_19 ?_
    refine lv_iload_n hx hb kd_D_hasOnlyItsTwo_22 rfl (lv_at hl 1 rfl) ?_
    refine lv_iload_n hx hb kd_D_hasOnlyItsTwo_23 rfl (lv_at hl 3 rfl) ?_
    obtain ⟨r2, e_r2, hF⟩ := fb_ob hF
    refine fb_callV (As := [.int x1, .int x3]) (rest := [.ref (a 3)]) ⟨hx, hb, hml, hown, hts⟩ zX_mv hZ hK hP hD hS hA (c_I_placeOfByte l dC dI dA a z x1 x3 st r2 e_r2) (cwV 2 hts (gd_V q_150 ko_I_placeOfByte) rfl rfl rfl kh_I_placeOfByte ⟨Nat.le_of_ble_eq_true rfl, Nat.le_of_ble_eq_true rfl⟩) 2 2 rfl rfl rfl rfl hl.1 rfl (Nat.le_of_ble_eq_true rfl) kd_D_hasOnlyItsTwo_24 ⟨Nat.zero_le _, Nat.zero_le _⟩ (fun H locs hP hD hS => ?_)
    refine W.eq (g2 := F0 m 27 ls [.int r2.1, .ref (a 3)]) rfl ?_
    refine lv_ldc (v := 65535) hx hb hown (hts _ q_158) kd_D_hasOnlyItsTwo_27 ?_
    obtain ⟨r3, e_r3, hF⟩ := fb_ob hF
    refine fb_callV (As := [.int r2.1, .int (65535 : Int32)]) (rest := []) ⟨hx, hb, hml, hown, hts⟩ zX_mv hZ hK hP hD hS hA (c_K_partAt l dC dI dA a z r2.1 (65535 : Int32) r2.2 r3 e_r3) (cwV 2 hts (gd_V q_159 ko_K_partAt) rfl rfl rfl kh_K_partAt ⟨Nat.le_of_ble_eq_true rfl, Nat.le_of_ble_eq_true rfl⟩) 1 3 rfl rfl rfl rfl hl.1 rfl (Nat.le_of_ble_eq_true rfl) kd_D_hasOnlyItsTwo_29 ⟨Nat.zero_le _, Nat.zero_le _⟩ (fun H locs hP hD hS => ?_)
    refine W.eq (g2 := F0 m 32 ls [.int r3.1]) rfl ?_
    refine lv_if_eq (tgt := 37) hx hb kd_D_hasOnlyItsTwo_32 (by decide) (fun c4 => ?_) (fun c4 => ?_)
    · rw [if_pos c4] at hF
      refine lv_iinc (v := x3 + (16 : Int32)) (lv' := [(3, .int (x3 + (16 : Int32))), (0, .ref (a 1)), (1, .int x1), (2, .int x2)]) hx hb kd_D_hasOnlyItsTwo_37 hl (k := 3) rfl rfl (by decide) rfl (fun ls hl => ?_)
      refine lv_goto (tgt := 9) hx hb kd_D_hasOnlyItsTwo_40 (by decide) ?_
      exact hk9 x1 x2 (x3 + (16 : Int32)) r3.2 hF H locs hP hD hS ls (lv_sub hl [1, 2, 3, 0] rfl)
    · rw [if_neg c4] at hF
      refine lv_iconst (v := 0) hx hb kd_D_hasOnlyItsTwo_35 (by decide) ?_
      exact fb_rb (o := o) hx hb hr hlocks hK hP hD hS hF kd_D_hasOnlyItsTwo_36
def l_D_hasOnlyItsTwo_9 : Nat → Int32 → Int32 → Int32 → fb_S → Option (Int32 × fb_S)
  | 0 => fun _ _ _ _ => none
  | n + 1 => b_D_hasOnlyItsTwo_9 (l_D_hasOnlyItsTwo_9 n)
theorem v_D_hasOnlyItsTwo_9 {p : Program} {l : Launch} {e : Env} {s : State} {m : MethodId} {args : Array Value} {below : List Frame} {meth : Method} {c : Code} {A : Nat → Prop} {dC : Nat → ClassId} {dI : Nat → Nat → Nat} {dA : Nat → ClassId} {a : Nat → Nat} {z : Nat → Nat} (CX : fb_C p s m args meth c kc_D_hasOnlyItsTwo (some .boolean) 4 "FileTree$Directories" (dC, dI) vcl (tX dA) A (zX z)) (o : Int32 × fb_S) (n : Nat) : ∀ (x1 : Int32) (x2 : Int32) (x3 : Int32) (st : fb_S), l_D_hasOnlyItsTwo_9 n x1 x2 x3 st = some o → fb_G p l e (headSpec kw_D_hasOnlyItsTwo rm_D_hasOnlyItsTwo).room s m args below meth c (dC, dI) vcl (tX dA) (wX dA a) A (some (.int o.1)) o.2 9 4 [(0, .ref (a 1)), (1, .int x1), (2, .int x2), (3, .int x3)] [] st := by
  induction n with
  | zero => intro x1 x2 x3 st hF; cases hF
  | succ n ih => intro x1 x2 x3 st hF; exact w_D_hasOnlyItsTwo_9 CX o (l_D_hasOnlyItsTwo_9 n) ih x1 x2 x3 st hF
def f_D_hasOnlyItsTwo (x1 : Int32) (st : fb_S) : Option (Int32 × fb_S) := (f_D_sizeOf x1 st).bind fun r1 => l_D_hasOnlyItsTwo_9 fb_n x1 r1.1 (32 : Int32) r1.2
set_option maxHeartbeats 4000000 in
set_option maxRecDepth 100000 in
theorem w_D_hasOnlyItsTwo_0 {p : Program} {l : Launch} {e : Env} {s : State} {m : MethodId} {args : Array Value} {below : List Frame} {meth : Method} {c : Code} {A : Nat → Prop} {dC : Nat → ClassId} {dI : Nat → Nat → Nat} {dA : Nat → ClassId} {a : Nat → Nat} {z : Nat → Nat} (CX : fb_C p s m args meth c kc_D_hasOnlyItsTwo (some .boolean) 4 "FileTree$Directories" (dC, dI) vcl (tX dA) A (zX z)) (o : Int32 × fb_S) (x1 : Int32) (st : fb_S) (hF : f_D_hasOnlyItsTwo x1 st = some o) : fb_G p l e (headSpec kw_D_hasOnlyItsTwo rm_D_hasOnlyItsTwo).room s m args below meth c (dC, dI) vcl (tX dA) (wX dA a) A (some (.int o.1)) o.2 0 4 [(0, .ref (a 1)), (1, .int x1)] [] st := by
  intro H locs hP hD hS ls hl
  obtain ⟨hx, hb, hr, hml, hown, hts, hK, hA, hlocks, hZ⟩ := id CX
  unfold f_D_hasOnlyItsTwo at hF
  refine lv_aload_n hx hb kd_D_hasOnlyItsTwo_0 rfl (lv_at hl 0 rfl) ?_
  refine lv_iload_n hx hb kd_D_hasOnlyItsTwo_1 rfl (lv_at hl 1 rfl) ?_
  obtain ⟨r1, e_r1, hF⟩ := fb_ob hF
  refine fb_callV (As := [.int x1]) (rest := []) ⟨hx, hb, hml, hown, hts⟩ zX_mv hZ hK hP hD hS hA (c_D_sizeOf l dC dI dA a z x1 st r1 e_r1) (cwV 1 hts (gd_V q_133 ko_D_sizeOf) rfl rfl rfl kh_D_sizeOf ⟨Nat.le_of_ble_eq_true rfl, Nat.le_of_ble_eq_true rfl⟩) 0 1 rfl rfl rfl rfl hl.1 rfl (Nat.le_of_ble_eq_true rfl) kd_D_hasOnlyItsTwo_2 ⟨Nat.zero_le _, Nat.zero_le _⟩ (fun H locs hP hD hS => ?_)
  refine W.eq (g2 := F0 m 5 ls [.int r1.1]) rfl ?_
  refine lv_istore_n (lv' := [(2, .int r1.1), (0, .ref (a 1)), (1, .int x1)]) hx hb kd_D_hasOnlyItsTwo_5 rfl hl (by decide) rfl (fun ls hl => ?_)
  refine lv_bipush (v := 32) hx hb kd_D_hasOnlyItsTwo_6 (by decide) ?_
  refine lv_istore_n (lv' := [(3, .int (32 : Int32)), (2, .int r1.1), (0, .ref (a 1)), (1, .int x1)]) hx hb kd_D_hasOnlyItsTwo_8 rfl hl (by decide) rfl (fun ls hl => ?_)
  exact v_D_hasOnlyItsTwo_9 CX o fb_n x1 r1.1 (32 : Int32) r1.2 hF H locs hP hD hS ls (lv_sub hl [2, 3, 1, 0] rfl)
theorem c_D_hasOnlyItsTwo (l : Launch) (dC : Nat → ClassId) (dI : Nat → Nat → Nat) (dA : Nat → ClassId) (a : Nat → Nat) (z : Nat → Nat) (x1 : Int32) (st : fb_S) (o : Int32 × fb_S) (h : f_D_hasOnlyItsTwo x1 st = some o) : fb_M l ky_D_hasOnlyItsTwo kw_D_hasOnlyItsTwo rm_D_hasOnlyItsTwo (dC, dI) vcl (tX dA) (wX dA a) (zX z) [.ref (a 1), .int x1] (some (.int o.1)) st o.2 := fb_enter (by decide) rfl (Nat.le_of_ble_eq_true rfl) (fun p e s m below meth c A CX hP hD hS ls hl => w_D_hasOnlyItsTwo_0 CX o x1 st h s.heap [] hP hD hS ls hl)
