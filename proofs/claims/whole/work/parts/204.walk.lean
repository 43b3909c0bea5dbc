abbrev rm_M_create : Room := { frames := 5, cells := 0, slots := 0, locals := 118 }
def b_M_create_195 (x5 : Int32) (x7 : Int32) (st : fb_S) : Option (Int32 × fb_S) := (f_M_enter x5 x7 st).bind fun r1 => some (x7, r1.2)
set_option maxHeartbeats 4000000 in
set_option maxRecDepth 100000 in
theorem w_M_create_195 {p : Program} {l : Launch} {e : Env} {s : State} {m : MethodId} {args : Array Value} {below : List Frame} {meth : Method} {c : Code} {A : Nat → Prop} {dC : Nat → ClassId} {dI : Nat → Nat → Nat} {dA : Nat → ClassId} {a : Nat → Nat} (CX : fb_C p s m args meth c kc_M_create (some .int) 8 "FileTreeModel" (dC, dI) vcl (tM dA) A zM) (o : Int32 × fb_S) (x5 : Int32) (x7 : Int32) (st : fb_S) (hF : b_M_create_195 x5 x7 st = some o) : fb_G p l e (headSpec kw_M_create rm_M_create).room s m args below meth c (dC, dI) vcl (tM dA) (wM dA a) A (some (.int o.1)) o.2 195 8 [(0, .ref (a 0)), (5, .int x5), (7, .int x7)] [] st := by
  intro H locs hP hD hS ls hl
  obtain ⟨hx, hb, hr, hml, hown, hts, hK, hA, hlocks, hZ⟩ := id CX
  unfold b_M_create_195 at hF
  refine lv_aload_n hx hb kd_M_create_195 rfl (lv_at hl 0 rfl) ?_
  refine lv_iload hx hb kd_M_create_196 (lv_at hl 1 rfl) ?_
  refine lv_iload hx hb kd_M_create_198 (lv_at hl 2 rfl) ?_
  obtain ⟨r1, e_r1, hF⟩ := fb_ob hF
  refine fb_callV (As := [.int x5, .int x7]) (rest := []) ⟨hx, hb, hml, hown, hts⟩ zM_mv hZ hK hP hD hS hA (c_M_enter l dC dI dA a x5 x7 st r1 e_r1) (cwV 2 hts (gd_V q_603 ko_M_enter) rfl rfl rfl kh_M_enter ⟨Nat.le_of_ble_eq_true rfl, Nat.le_of_ble_eq_true rfl⟩) 5 0 rfl rfl rfl rfl hl.1 rfl (Nat.le_of_ble_eq_true rfl) kd_M_create_200 ⟨Nat.zero_le _, Nat.zero_le _⟩ (fun H locs hP hD hS => ?_)
  refine W.eq (g2 := F0 m 203 ls []) rfl ?_
  refine lv_iload hx hb kd_M_create_203 (lv_at hl 2 rfl) ?_
  exact fb_ri (o := o) hx hb hr hlocks hK hP hD hS hF kd_M_create_205
def b_M_create_129 (x2 : Int32) (x3 : Int32) (x4 : Int32) (x5 : Int32) (x7 : Int32) (y0 : Int32) (y1 : Int32) (st : fb_S) : Option (Int32 × fb_S) := (f_M_left st).bind fun r1 => (if (y1 + y0) ≤ r1.1 then (fb_st r1.2 4 64 x7 x2).bind fun s3 => (fb_st s3 5 64 x7 (x3 &&& (65535 : Int32))).bind fun s4 => (fb_st s4 6 64 x7 (x4 &&& (65535 : Int32))).bind fun s5 => (fb_st s5 7 64 x7 (1 : Int32)).bind fun s6 => (if x2 = (1 : Int32) then (f_M_begins x7 x5 s6).bind fun r8 => (f_M_again r8.2).bind fun r9 => b_M_create_195 x5 x7 r9.2 else b_M_create_195 x5 x7 s6) else some ((-1 : Int32), r1.2))
set_option maxHeartbeats 4000000 in
set_option maxRecDepth 100000 in
theorem w_M_create_129 {p : Program} {l : Launch} {e : Env} {s : State} {m : MethodId} {args : Array Value} {below : List Frame} {meth : Method} {c : Code} {A : Nat → Prop} {dC : Nat → ClassId} {dI : Nat → Nat → Nat} {dA : Nat → ClassId} {a : Nat → Nat} (CX : fb_C p s m args meth c kc_M_create (some .int) 8 "FileTreeModel" (dC, dI) vcl (tM dA) A zM) (o : Int32 × fb_S) (x2 : Int32) (x3 : Int32) (x4 : Int32) (x5 : Int32) (x7 : Int32) (y0 : Int32) (y1 : Int32) (st : fb_S) (hF : b_M_create_129 x2 x3 x4 x5 x7 y0 y1 st = some o) : fb_G p l e (headSpec kw_M_create rm_M_create).room s m args below meth c (dC, dI) vcl (tM dA) (wM dA a) A (some (.int o.1)) o.2 129 8 [(0, .ref (a 0)), (2, .int x2), (3, .int x3), (4, .int x4), (5, .int x5), (7, .int x7)] [.int y0, .int y1] st := by
  intro H locs hP hD hS ls hl
  obtain ⟨hx, hb, hr, hml, hown, hts, hK, hA, hlocks, hZ⟩ := id CX
  unfold b_M_create_129 at hF
  refine lv_iadd hx hb kd_M_create_129 ?_
  refine lv_aload_n hx hb kd_M_create_130 rfl (lv_at hl 0 rfl) ?_
  obtain ⟨r1, e_r1, hF⟩ := fb_ob hF
  refine fb_callV (As := []) (rest := [.int (y1 + y0)]) ⟨hx, hb, hml, hown, hts⟩ zM_mv hZ hK hP hD hS hA (c_M_left l dC dI dA a st r1 e_r1) (cwV 0 hts (gd_V q_594 ko_M_left) rfl rfl rfl kh_M_left ⟨Nat.le_of_ble_eq_true rfl, Nat.le_of_ble_eq_true rfl⟩) 5 0 rfl rfl rfl rfl hl.1 rfl (Nat.le_of_ble_eq_true rfl) kd_M_create_131 ⟨Nat.zero_le _, Nat.zero_le _⟩ (fun H locs hP hD hS => ?_)
  refine W.eq (g2 := F0 m 134 ls [.int r1.1, .int (y1 + y0)]) rfl ?_
  refine lv_icmp_le (tgt := 139) hx hb kd_M_create_134 (by decide) (fun c2 => ?_) (fun c2 => ?_)
  · rw [if_pos c2] at hF
    refine lv_aload_n hx hb kd_M_create_139 rfl (lv_at hl 0 rfl) ?_
    refine va_get (D := (dC, dI)) (ci := 5) (v := .ref (a 5)) (C := "FileTreeModel") (T := ft_M) (N := 18) hx hb hts fi_M hown hK hP 0 rfl rfl 6 (by decide) (hts _ q_475) (fun _ h9 => h9) rfl kd_M_create_140 ?_
    refine lv_iload hx hb kd_M_create_143 (lv_at hl 5 rfl) ?_
    refine lv_iload_n hx hb kd_M_create_145 rfl (lv_at hl 1 rfl) ?_
    obtain ⟨s3, e_s3, hF⟩ := fb_ob hF
    refine fb_iast (wx := (wM dA a)) (k := 4) hx hb hK hP hD hS 5 0 rfl rfl e_s3 (fun _ => rfl) kd_M_create_146 (fun H locs hP hD hS => ?_)
    refine lv_aload_n hx hb kd_M_create_147 rfl (lv_at hl 0 rfl) ?_
    refine va_get (D := (dC, dI)) (ci := 5) (v := .ref (a 6)) (C := "FileTreeModel") (T := ft_M) (N := 18) hx hb hts fi_M hown hK hP 0 rfl rfl 7 (by decide) (hts _ q_476) (fun _ h9 => h9) rfl kd_M_create_148 ?_
    refine lv_iload hx hb kd_M_create_151 (lv_at hl 5 rfl) ?_
    refine lv_iload_n hx hb kd_M_create_153 rfl (lv_at hl 2 rfl) ?_
    refine lv_ldc (v := 65535) hx hb hown (hts _ q_598) kd_M_create_154 ?_
    refine lv_iand hx hb kd_M_create_156 ?_
    obtain ⟨s4, e_s4, hF⟩ := fb_ob hF
    refine fb_iast (wx := (wM dA a)) (k := 5) hx hb hK hP hD hS 6 0 rfl rfl e_s4 (fun _ => rfl) kd_M_create_157 (fun H locs hP hD hS => ?_)
    refine lv_aload_n hx hb kd_M_create_158 rfl (lv_at hl 0 rfl) ?_
    refine va_get (D := (dC, dI)) (ci := 5) (v := .ref (a 7)) (C := "FileTreeModel") (T := ft_M) (N := 18) hx hb hts fi_M hown hK hP 0 rfl rfl 8 (by decide) (hts _ q_477) (fun _ h9 => h9) rfl kd_M_create_159 ?_
    refine lv_iload hx hb kd_M_create_162 (lv_at hl 5 rfl) ?_
    refine lv_iload hx hb kd_M_create_164 (lv_at hl 3 rfl) ?_
    refine lv_ldc (v := 65535) hx hb hown (hts _ q_598) kd_M_create_166 ?_
    refine lv_iand hx hb kd_M_create_168 ?_
    obtain ⟨s5, e_s5, hF⟩ := fb_ob hF
    refine fb_iast (wx := (wM dA a)) (k := 6) hx hb hK hP hD hS 7 0 rfl rfl e_s5 (fun _ => rfl) kd_M_create_169 (fun H locs hP hD hS => ?_)
    refine lv_aload_n hx hb kd_M_create_170 rfl (lv_at hl 0 rfl) ?_
    refine va_get (D := (dC, dI)) (ci := 5) (v := .ref (a 8)) (C := "FileTreeModel") (T := ft_M) (N := 18) hx hb hts fi_M hown hK hP 0 rfl rfl 9 (by decide) (hts _ q_478) (fun _ h9 => h9) rfl kd_M_create_171 ?_
    refine lv_iload hx hb kd_M_create_174 (lv_at hl 5 rfl) ?_
    refine lv_iconst (v := 1) hx hb kd_M_create_176 (by decide) ?_
    obtain ⟨s6, e_s6, hF⟩ := fb_ob hF
    refine fb_iast (wx := (wM dA a)) (k := 7) hx hb hK hP hD hS 8 0 rfl rfl e_s6 (fun _ => rfl) kd_M_create_177 (fun H locs hP hD hS => ?_)
    refine lv_iload_n hx hb kd_M_create_178 rfl (lv_at hl 1 rfl) ?_
    refine lv_iconst (v := 1) hx hb kd_M_create_179 (by decide) ?_
    refine lv_icmp_ne (tgt := 195) hx hb kd_M_create_180 (by decide) (fun c7 => ?_) (fun c7 => ?_)
    · rw [if_neg c7] at hF
      exact w_M_create_195 CX o x5 x7 s6 hF H locs hP hD hS ls (lv_sub hl [0, 4, 5] rfl)
    · rw [if_pos c7] at hF
      refine lv_aload_n hx hb kd_M_create_183 rfl (lv_at hl 0 rfl) ?_
      refine lv_iload hx hb kd_M_create_184 (lv_at hl 5 rfl) ?_
      refine lv_iload hx hb kd_M_create_186 (lv_at hl 4 rfl) ?_
      obtain ⟨r8, e_r8, hF⟩ := fb_ob hF
      refine fb_callV (As := [.int x7, .int x5]) (rest := []) ⟨hx, hb, hml, hown, hts⟩ zM_mv hZ hK hP hD hS hA (c_M_begins l dC dI dA a x7 x5 s6 r8 e_r8) (cwV 2 hts (gd_V q_441 ko_M_begins) rfl rfl rfl kh_M_begins ⟨Nat.le_of_ble_eq_true rfl, Nat.le_of_ble_eq_true rfl⟩) 5 0 rfl rfl rfl rfl hl.1 rfl (Nat.le_of_ble_eq_true rfl) kd_M_create_188 ⟨Nat.zero_le _, Nat.zero_le _⟩ (fun H locs hP hD hS => ?_)
      refine W.eq (g2 := F0 m 191 ls []) rfl ?_
      refine lv_aload_n hx hb kd_M_create_191 rfl (lv_at hl 0 rfl) ?_
      obtain ⟨r9, e_r9, hF⟩ := fb_ob hF
      refine fb_callV (As := []) (rest := []) ⟨hx, hb, hml, hown, hts⟩ zM_mv hZ hK hP hD hS hA (c_M_again l dC dI dA a r8.2 r9 e_r9) (cwV 0 hts (gd_V q_599 ko_M_again) rfl rfl rfl kh_M_again ⟨Nat.le_of_ble_eq_true rfl, Nat.le_of_ble_eq_true rfl⟩) 5 0 rfl rfl rfl rfl hl.1 rfl (Nat.le_of_ble_eq_true rfl) kd_M_create_192 ⟨Nat.zero_le _, Nat.zero_le _⟩ (fun H locs hP hD hS => ?_)
      refine W.eq (g2 := F0 m 195 ls []) rfl ?_
      exact w_M_create_195 CX o x5 x7 r9.2 hF H locs hP hD hS ls (lv_sub hl [0, 4, 5] rfl)
  · rw [if_neg c2] at hF
    refine lv_iconst (v := (-1)) hx hb kd_M_create_137 (by decide) ?_
    exact fb_ri (o := o) hx hb hr hlocks hK hP hD hS hF kd_M_create_138
def b_M_create_106 (x2 : Int32) (x3 : Int32) (x4 : Int32) (x5 : Int32) (x7 : Int32) (st : fb_S) : Option (Int32 × fb_S) := (if x7 = (64 : Int32) then some ((-1 : Int32), st) else (f_M_wants x5 st).bind fun r2 => (if x2 = (1 : Int32) then b_M_create_129 x2 x3 x4 x5 x7 (1 : Int32) r2.1 r2.2 else b_M_create_129 x2 x3 x4 x5 x7 (0 : Int32) r2.1 r2.2))
set_option maxHeartbeats 4000000 in
set_option maxRecDepth 100000 in
theorem w_M_create_106 {p : Program} {l : Launch} {e : Env} {s : State} {m : MethodId} {args : Array Value} {below : List Frame} {meth : Method} {c : Code} {A : Nat → Prop} {dC : Nat → ClassId} {dI : Nat → Nat → Nat} {dA : Nat → ClassId} {a : Nat → Nat} (CX : fb_C p s m args meth c kc_M_create (some .int) 8 "FileTreeModel" (dC, dI) vcl (tM dA) A zM) (o : Int32 × fb_S) (x2 : Int32) (x3 : Int32) (x4 : Int32) (x5 : Int32) (x7 : Int32) (st : fb_S) (hF : b_M_create_106 x2 x3 x4 x5 x7 st = some o) : fb_G p l e (headSpec kw_M_create rm_M_create).room s m args below meth c (dC, dI) vcl (tM dA) (wM dA a) A (some (.int o.1)) o.2 106 8 [(0, .ref (a 0)), (2, .int x2), (3, .int x3), (4, .int x4), (5, .int x5), (7, .int x7)] [] st := by
  intro H locs hP hD hS ls hl
  obtain ⟨hx, hb, hr, hml, hown, hts, hK, hA, hlocks, hZ⟩ := id CX
  unfold b_M_create_106 at hF
  refine lv_iload hx hb kd_M_create_106 (lv_at hl 5 rfl) ?_
  refine lv_bipush (v := 64) hx hb kd_M_create_108 (by decide) ?_
  refine lv_icmp_eq (tgt := 137) hx hb kd_M_create_110 (by decide) (fun c1 => ?_) (fun c1 => ?_)
  · rw [if_pos c1] at hF
    refine lv_iconst (v := (-1)) hx hb kd_M_create_137 (by decide) ?_
    exact fb_ri (o := o) hx hb hr hlocks hK hP hD hS hF kd_M_create_138
  · rw [if_neg c1] at hF
    refine lv_aload_n hx hb kd_M_create_113 rfl (lv_at hl 0 rfl) ?_
    refine lv_iload hx hb kd_M_create_114 (lv_at hl 4 rfl) ?_
    obtain ⟨r2, e_r2, hF⟩ := fb_ob hF
    refine fb_callV (As := [.int x5]) (rest := []) ⟨hx, hb, hml, hown, hts⟩ zM_mv hZ hK hP hD hS hA (c_M_wants l dC dI dA a x5 st r2 e_r2) (cwV 1 hts (gd_V q_581 ko_M_wants) rfl rfl rfl kh_M_wants ⟨Nat.le_of_ble_eq_true rfl, Nat.le_of_ble_eq_true rfl⟩) 5 0 rfl rfl rfl rfl hl.1 rfl (Nat.le_of_ble_eq_true rfl) kd_M_create_116 ⟨Nat.zero_le _, Nat.zero_le _⟩ (fun H locs hP hD hS => ?_)
    refine W.eq (g2 := F0 m 119 ls [.int r2.1]) rfl ?_
    refine lv_iload_n hx hb kd_M_create_119 rfl (lv_at hl 1 rfl) ?_
    refine lv_iconst (v := 1) hx hb kd_M_create_120 (by decide) ?_
    refine lv_icmp_ne (tgt := 128) hx hb kd_M_create_121 (by decide) (fun c3 => ?_) (fun c3 => ?_)
    · rw [if_neg c3] at hF
      refine lv_iconst (v := 0) hx hb kd_M_create_128 (by decide) ?_
      exact w_M_create_129 CX o x2 x3 x4 x5 x7 (0 : Int32) r2.1 r2.2 hF H locs hP hD hS ls (lv_sub hl [0, 1, 2, 3, 4, 5] rfl)
    · rw [if_pos c3] at hF
      refine lv_iconst (v := 1) hx hb kd_M_create_124 (by decide) ?_
      refine lv_goto (tgt := 129) hx hb kd_M_create_125 (by decide) ?_
      exact w_M_create_129 CX o x2 x3 x4 x5 x7 (1 : Int32) r2.1 r2.2 hF H locs hP hD hS ls (lv_sub hl [0, 1, 2, 3, 4, 5] rfl)
def b_M_create_83 (k83 : Int32 → Int32 → Int32 → Int32 → Int32 → fb_S → Option (Int32 × fb_S)) (x2 : Int32) (x3 : Int32) (x4 : Int32) (x5 : Int32) (x7 : Int32) (st : fb_S) : Option (Int32 × fb_S) := (if (64 : Int32) ≤ x7 then b_M_create_106 x2 x3 x4 x5 x7 st else (fb_ld (st 4) 64 x7).bind fun v2 => (if v2 ≤ (0 : Int32) then b_M_create_106 x2 x3 x4 x5 x7 st else k83 x2 x3 x4 x5 (x7 + (1 : Int32)) st))
set_option maxHeartbeats 4000000 in
set_option maxRecDepth 100000 in
theorem w_M_create_83 {p : Program} {l : Launch} {e : Env} {s : State} {m : MethodId} {args : Array Value} {below : List Frame} {meth : Method} {c : Code} {A : Nat → Prop} {dC : Nat → ClassId} {dI : Nat → Nat → Nat} {dA : Nat → ClassId} {a : Nat → Nat} (CX : fb_C p s m args meth c kc_M_create (some .int) 8 "FileTreeModel" (dC, dI) vcl (tM dA) A zM) (o : Int32 × fb_S) (k83 : Int32 → Int32 → Int32 → Int32 → Int32 → fb_S → Option (Int32 × fb_S)) (hk83 : ∀ (x2 : Int32) (x3 : Int32) (x4 : Int32) (x5 : Int32) (x7 : Int32) (st : fb_S), k83 x2 x3 x4 x5 x7 st = some o → fb_G p l e (headSpec kw_M_create rm_M_create).room s m args below meth c (dC, dI) vcl (tM dA) (wM dA a) A (some (.int o.1)) o.2 83 8 [(0, .ref (a 0)), (2, .int x2), (3, .int x3), (4, .int x4), (5, .int x5), (7, .int x7)] [] st) (x2 : Int32) (x3 : Int32) (x4 : Int32) (x5 : Int32) (x7 : Int32) (st : fb_S) (hF : b_M_create_83 k83 x2 x3 x4 x5 x7 st = some o) : fb_G p l e (headSpec kw_M_create rm_M_create).room s m args below meth c (dC, dI) vcl (tM dA) (wM dA a) A (some (.int o.1)) o.2 83 8 [(0, .ref (a 0)), (2, .int x2), (3, .int x3), (4, .int x4), (5, .int x5), (7, .int x7)] [] st := by
  intro H locs hP hD hS ls hl
  obtain ⟨hx, hb, hr, hml, hown, hts, hK, hA, hlocks, hZ⟩ := id CX
  unfold b_M_create_83 at hF
  refine lv_iload hx hb kd_M_create_83 (lv_at hl 5 rfl) ?_
  refine lv_bipush (v := 64) hx hb kd_M_create_85 (by decide) ?_
  refine lv_icmp_ge (tgt := 106) hx hb kd_M_create_87 (by decide) (fun c1 => ?_) (fun c1 => ?_)
  · rw [if_pos c1] at hF
    exact w_M_create_106 CX o x2 x3 x4 x5 x7 st hF H locs hP hD hS ls (lv_sub hl [0, 1, 2, 3, 4, 5] rfl)
  · rw [if_neg c1] at hF
    refine lv_aload_n hx hb kd_M_create_90 rfl (lv_at hl 0 rfl) ?_
    refine va_get (D := (dC, dI)) (ci := 5) (v := .ref (a 5)) (C := "FileTreeModel") (T := ft_M) (N := 18) hx hb hts fi_M hown hK hP 0 rfl rfl 6 (by decide) (hts _ q_475) (fun _ h9 => h9) rfl kd_M_create_91 ?_
    refine lv_iload hx hb kd_M_create_94 (lv_at hl 5 rfl) ?_
    obtain ⟨v2, e_v2, hF⟩ := fb_ob hF
    refine fb_iald hx hb hK hP 5 0 rfl rfl e_v2 kd_M_create_96 ?_
    refine lv_if_le (tgt := 106) hx hb kd_M_create_97 (by decide) (fun c3 => ?_) (fun c3 => ?_)
    · rw [if_pos c3] at hF
      exact w_M_create_106 CX o x2 x3 x4 x5 x7 st hF H locs hP hD hS ls (lv_sub hl [0, 1, 2, 3, 4, 5] rfl)
    · rw [if_neg c3] at hF
      refine lv_iinc (v := x7 + (1 : Int32)) (lv' := [(7, .int (x7 + (1 : Int32))), (0, .ref (a 0)), (2, .int x2), (3, .int x3), (4, .int x4), (5, .int x5)]) hx hb kd_M_create_100 hl (k := 5) rfl rfl (by decide) rfl (fun ls hl => ?_)
      refine lv_goto (tgt := 83) hx hb kd_M_create_103 (by decide) ?_
      exact hk83 x2 x3 x4 x5 (x7 + (1 : Int32)) st hF H locs hP hD hS ls (lv_sub hl [1, 2, 3, 4, 5, 0] rfl)
def l_M_create_83 : Nat → Int32 → Int32 → Int32 → Int32 → Int32 → fb_S → Option (Int32 × fb_S)
  | 0 => fun _ _ _ _ _ _ => none
  | n + 1 => b_M_create_83 (l_M_create_83 n)
theorem v_M_create_83 {p : Program} {l : Launch} {e : Env} {s : State} {m : MethodId} {args : Array Value} {below : List Frame} {meth : Method} {c : Code} {A : Nat → Prop} {dC : Nat → ClassId} {dI : Nat → Nat → Nat} {dA : Nat → ClassId} {a : Nat → Nat} (CX : fb_C p s m args meth c kc_M_create (some .int) 8 "FileTreeModel" (dC, dI) vcl (tM dA) A zM) (o : Int32 × fb_S) (n : Nat) : ∀ (x2 : Int32) (x3 : Int32) (x4 : Int32) (x5 : Int32) (x7 : Int32) (st : fb_S), l_M_create_83 n x2 x3 x4 x5 x7 st = some o → fb_G p l e (headSpec kw_M_create rm_M_create).room s m args below meth c (dC, dI) vcl (tM dA) (wM dA a) A (some (.int o.1)) o.2 83 8 [(0, .ref (a 0)), (2, .int x2), (3, .int x3), (4, .int x4), (5, .int x5), (7, .int x7)] [] st := by
  induction n with
  | zero => intro x2 x3 x4 x5 x7 st hF; cases hF
  | succ n ih => intro x2 x3 x4 x5 x7 st hF; exact w_M_create_83 CX o (l_M_create_83 n) ih x2 x3 x4 x5 x7 st hF
def f_M_create (x1 : Int32) (x2 : Int32) (x3 : Int32) (x4 : Int32) (st : fb_S) : Option (Int32 × fb_S) := (fb_pf st 14 (0 : Int32)).bind fun s1 => (f_M_taken s1).bind fun r2 => (f_M_before x1 (0 : Int32) r2.1 r2.2).bind fun r3 => (if r3.1 = (0 : Int32) then some ((-1 : Int32), r3.2) else (if x2 < (1 : Int32) then some ((-1 : Int32), r3.2) else (if x2 ≤ (3 : Int32) then (f_M_entry r3.1 r3.2).bind fun r7 => (if r7.1 < (0 : Int32) then l_M_create_83 fb_n x2 x3 x4 r3.1 (1 : Int32) r7.2 else (f_M_numberAt r3.1 r7.1 r7.2).bind fun r9 => (if x2 = (2 : Int32) then (fb_ld (r9.2 4) 64 r9.1).bind fun v11 => (if v11 ≤ (1 : Int32) then some ((-1 : Int32), r9.2) else some (r9.1, r9.2)) else some ((-1 : Int32), r9.2))) else some ((-1 : Int32), r3.2))))
set_option maxHeartbeats 4000000 in
set_option maxRecDepth 100000 in
theorem w_M_create_0 {p : Program} {l : Launch} {e : Env} {s : State} {m : MethodId} {args : Array Value} {below : List Frame} {meth : Method} {c : Code} {A : Nat → Prop} {dC : Nat → ClassId} {dI : Nat → Nat → Nat} {dA : Nat → ClassId} {a : Nat → Nat} (CX : fb_C p s m args meth c kc_M_create (some .int) 8 "FileTreeModel" (dC, dI) vcl (tM dA) A zM) (o : Int32 × fb_S) (x1 : Int32) (x2 : Int32) (x3 : Int32) (x4 : Int32) (st : fb_S) (hF : f_M_create x1 x2 x3 x4 st = some o) : fb_G p l e (headSpec kw_M_create rm_M_create).room s m args below meth c (dC, dI) vcl (tM dA) (wM dA a) A (some (.int o.1)) o.2 0 8 [(0, .ref (a 0)), (1, .int x1), (2, .int x2), (3, .int x3), (4, .int x4)] [] st := by
  intro H locs hP hD hS ls hl
  obtain ⟨hx, hb, hr, hml, hown, hts, hK, hA, hlocks, hZ⟩ := id CX
  unfold f_M_create at hF
  refine lv_aload_n hx hb kd_M_create_0 rfl (lv_at hl 0 rfl) ?_
  refine lv_iconst (v := 0) hx hb kd_M_create_1 (by decide) ?_
  obtain ⟨s1, e_s1, hF⟩ := fb_ob hF
  refine va_put (D := (dC, dI)) (ci := 5) (v := .int (0 : Int32)) (ty := .int) (C := "FileTreeModel") (T := ft_M) (N := 18) hx hb hts fi_M fy_M fo_M fn_M hown hK hP hD hS 0 rfl rfl 0 (by decide) (hts _ q_469) (fun _ h9 => h9) rfl (by decide +kernel) rfl rfl (Nat.le_of_ble_eq_true rfl) kd_M_create_2 (fun H locs hP hD hS => ?_)
  cases e_s1
  obtain ⟨s1, e_s1⟩ : ∃ z : fb_S, z = va_up st 14 (upd (st 14) 0 (0 : Int32)) := ⟨_, rfl⟩
  rw [← e_s1] at hF
  have hP : va_P (dC, dI) vcl ((wM dA a) s1) H := by rw [e_s1]; exact hP
  have hD : va_D A ((wM dA a) s1) := by rw [e_s1]; exact hD
  refine lv_aload_n hx hb kd_M_create_5 rfl (lv_at hl 0 rfl) ?_
  refine lv_iload_n hx hb kd_M_create_6 rfl (lv_at hl 1 rfl) ?_
  refine lv_iconst (v := 0) hx hb kd_M_create_7 (by decide) ?_
  refine lv_aload_n hx hb kd_M_create_8 rfl (lv_at hl 0 rfl) ?_
  obtain ⟨r2, e_r2, hF⟩ := fb_ob hF
  refine fb_callV (As := []) (rest := [.int (0 : Int32), .int x1, .ref (a 0)]) ⟨hx, hb, hml, hown, hts⟩ zM_mv hZ hK hP hD hS hA (c_M_taken l dC dI dA a s1 r2 e_r2) (cwV 0 hts (gd_V q_534 ko_M_taken) rfl rfl rfl kh_M_taken ⟨Nat.le_of_ble_eq_true rfl, Nat.le_of_ble_eq_true rfl⟩) 5 0 rfl rfl rfl rfl hl.1 rfl (Nat.le_of_ble_eq_true rfl) kd_M_create_9 ⟨Nat.zero_le _, Nat.zero_le _⟩ (fun H locs hP hD hS => ?_)
  refine W.eq (g2 := F0 m 12 ls [.int r2.1, .int (0 : Int32), .int x1, .ref (a 0)]) rfl ?_
  obtain ⟨r3, e_r3, hF⟩ := fb_ob hF
  refine fb_callV (As := [.int x1, .int (0 : Int32), .int r2.1]) (rest := []) ⟨hx, hb, hml, hown, hts⟩ zM_mv hZ hK hP hD hS hA (c_M_before l dC dI dA a x1 (0 : Int32) r2.1 r2.2 r3 e_r3) (cwV 3 hts (gd_V q_577 ko_M_before) rfl rfl rfl kh_M_before ⟨Nat.le_of_ble_eq_true rfl, Nat.le_of_ble_eq_true rfl⟩) 5 0 rfl rfl rfl rfl hl.1 rfl (Nat.le_of_ble_eq_true rfl) kd_M_create_12 ⟨Nat.zero_le _, Nat.zero_le _⟩ (fun H locs hP hD hS => ?_)
  refine W.eq (g2 := F0 m 15 ls [.int r3.1]) rfl ?_
  refine lv_istore (lv' := [(5, .int r3.1), (0, .ref (a 0)), (1, .int x1), (2, .int x2), (3, .int x3), (4, .int x4)]) hx hb kd_M_create_15 hl (by decide) rfl (fun ls hl => ?_)
  refine lv_iload hx hb kd_M_create_17 (lv_at hl 0 rfl) ?_
  refine lv_if_eq (tgt := 32) hx hb kd_M_create_19 (by decide) (fun c4 => ?_) (fun c4 => ?_)
  · rw [if_pos c4] at hF
    refine lv_iconst (v := (-1)) hx hb kd_M_create_32 (by decide) ?_
    exact fb_ri (o := o) hx hb hr hlocks hK hP hD hS hF kd_M_create_33
  · rw [if_neg c4] at hF
    refine lv_iload_n hx hb kd_M_create_22 rfl (lv_at hl 3 rfl) ?_
    refine lv_iconst (v := 1) hx hb kd_M_create_23 (by decide) ?_
    refine lv_icmp_lt (tgt := 32) hx hb kd_M_create_24 (by decide) (fun c5 => ?_) (fun c5 => ?_)
    · rw [if_pos c5] at hF
      refine lv_iconst (v := (-1)) hx hb kd_M_create_32 (by decide) ?_
      exact fb_ri (o := o) hx hb hr hlocks hK hP hD hS hF kd_M_create_33
    · rw [if_neg c5] at hF
      refine lv_iload_n hx hb kd_M_create_27 rfl (lv_at hl 3 rfl) ?_
      refine lv_iconst (v := 3) hx hb kd_M_create_28 (by decide) ?_
      refine lv_icmp_le (tgt := 34) hx hb kd_M_create_29 (by decide) (fun c6 => ?_) (fun c6 => ?_)
      · rw [if_pos c6] at hF
        refine lv_aload_n hx hb kd_M_create_34 rfl (lv_at hl 1 rfl) ?_
        refine lv_iload hx hb kd_M_create_35 (lv_at hl 0 rfl) ?_
        obtain ⟨r7, e_r7, hF⟩ := fb_ob hF
        refine fb_callV (As := [.int r3.1]) (rest := []) ⟨hx, hb, hml, hown, hts⟩ zM_mv hZ hK hP hD hS hA (c_M_entry l dC dI dA a r3.1 r3.2 r7 e_r7) (cwV 1 hts (gd_V q_565 ko_M_entry) rfl rfl rfl kh_M_entry ⟨Nat.le_of_ble_eq_true rfl, Nat.le_of_ble_eq_true rfl⟩) 5 0 rfl rfl rfl rfl hl.1 rfl (Nat.le_of_ble_eq_true rfl) kd_M_create_37 ⟨Nat.zero_le _, Nat.zero_le _⟩ (fun H locs hP hD hS => ?_)
        refine W.eq (g2 := F0 m 40 ls [.int r7.1]) rfl ?_
        refine lv_istore (lv' := [(6, .int r7.1), (5, .int r3.1), (0, .ref (a 0)), (1, .int x1), (2, .int x2), (3, .int x3), (4, .int x4)]) hx hb kd_M_create_40 hl (by decide) rfl (fun ls hl => ?_)
        refine lv_iload hx hb kd_M_create_42 (lv_at hl 0 rfl) ?_
        refine lv_if_lt (tgt := 80) hx hb kd_M_create_44 (by decide) (fun c8 => ?_) (fun c8 => ?_)
        · rw [if_pos c8] at hF
          refine lv_iconst (v := 1) hx hb kd_M_create_80 (by decide) ?_
          refine lv_istore (lv' := [(7, .int (1 : Int32)), (6, .int r7.1), (5, .int r3.1), (0, .ref (a 0)), (1, .int x1), (2, .int x2), (3, .int x3), (4, .int x4)]) hx hb kd_M_create_81 hl (by decide) rfl (fun ls hl => ?_)
          exact v_M_create_83 CX o fb_n x2 x3 x4 r3.1 (1 : Int32) r7.2 hF H locs hP hD hS ls (lv_sub hl [3, 5, 6, 7, 2, 0] rfl)
        · rw [if_neg c8] at hF
          refine lv_aload_n hx hb kd_M_create_47 rfl (lv_at hl 2 rfl) ?_
          refine lv_iload hx hb kd_M_create_48 (lv_at hl 1 rfl) ?_
          refine lv_iload hx hb kd_M_create_50 (lv_at hl 0 rfl) ?_
          obtain ⟨r9, e_r9, hF⟩ := fb_ob hF
          refine fb_callV (As := [.int r3.1, .int r7.1]) (rest := []) ⟨hx, hb, hml, hown, hts⟩ zM_mv hZ hK hP hD hS hA (c_M_numberAt l dC dI dA a r3.1 r7.1 r7.2 r9 e_r9) (cwV 2 hts (gd_V q_569 ko_M_numberAt) rfl rfl rfl kh_M_numberAt ⟨Nat.le_of_ble_eq_true rfl, Nat.le_of_ble_eq_true rfl⟩) 5 0 rfl rfl rfl rfl hl.1 rfl (Nat.le_of_ble_eq_true rfl) kd_M_create_52 ⟨Nat.zero_le _, Nat.zero_le _⟩ (fun H locs hP hD hS => ?_)
          refine W.eq (g2 := F0 m 55 ls [.int r9.1]) rfl ?_
          refine lv_istore (lv' := [(7, .int r9.1), (6, .int r7.1), (5, .int r3.1), (0, .ref (a 0)), (1, .int x1), (2, .int x2), (3, .int x3), (4, .int x4)]) hx hb kd_M_create_55 hl (by decide) rfl (fun ls hl => ?_)
          refine lv_iload_n hx hb kd_M_create_57 rfl (lv_at hl 5 rfl) ?_
          refine lv_iconst (v := 2) hx hb kd_M_create_58 (by decide) ?_
          refine lv_icmp_ne (tgt := 78) hx hb kd_M_create_59 (by decide) (fun c10 => ?_) (fun c10 => ?_)
          · rw [if_neg c10] at hF
            refine lv_iconst (v := (-1)) hx hb kd_M_create_78 (by decide) ?_
            exact fb_ri (o := o) hx hb hr hlocks hK hP hD hS hF kd_M_create_79
          · rw [if_pos c10] at hF
            refine lv_aload_n hx hb kd_M_create_62 rfl (lv_at hl 3 rfl) ?_
            refine va_get (D := (dC, dI)) (ci := 5) (v := .ref (a 5)) (C := "FileTreeModel") (T := ft_M) (N := 18) hx hb hts fi_M hown hK hP 0 rfl rfl 6 (by decide) (hts _ q_475) (fun _ h9 => h9) rfl kd_M_create_63 ?_
            refine lv_iload hx hb kd_M_create_66 (lv_at hl 0 rfl) ?_
            obtain ⟨v11, e_v11, hF⟩ := fb_ob hF
            refine fb_iald hx hb hK hP 5 0 rfl rfl e_v11 kd_M_create_68 ?_
            refine lv_iconst (v := 1) hx hb kd_M_create_69 (by decide) ?_
            refine lv_icmp_le (tgt := 78) hx hb kd_M_create_70 (by decide) (fun c12 => ?_) (fun c12 => ?_)
            · rw [if_pos c12] at hF
              refine lv_iconst (v := (-1)) hx hb kd_M_create_78 (by decide) ?_
              exact fb_ri (o := o) hx hb hr hlocks hK hP hD hS hF kd_M_create_79
            · rw [if_neg c12] at hF
              refine lv_iload hx hb kd_M_create_73 (lv_at hl 0 rfl) ?_
              refine lv_goto (tgt := 79) hx hb kd_M_create_75 (by decide) ?_
              exact fb_ri (o := o) hx hb hr hlocks hK hP hD hS hF kd_M_create_79
      · rw [if_neg c6] at hF
        refine lv_iconst (v := (-1)) hx hb kd_M_create_32 (by decide) ?_
        exact fb_ri (o := o) hx hb hr hlocks hK hP hD hS hF kd_M_create_33
theorem c_M_create (l : Launch) (dC : Nat → ClassId) (dI : Nat → Nat → Nat) (dA : Nat → ClassId) (a : Nat → Nat) (x1 : Int32) (x2 : Int32) (x3 : Int32) (x4 : Int32) (st : fb_S) (o : Int32 × fb_S) (h : f_M_create x1 x2 x3 x4 st = some o) : fb_M l ky_M_create kw_M_create rm_M_create (dC, dI) vcl (tM dA) (wM dA a) zM [.ref (a 0), .int x1, .int x2, .int x3, .int x4] (some (.int o.1)) st o.2 := fb_enter (by decide) rfl (Nat.le_of_ble_eq_true rfl) (fun p e s m below meth c A CX hP hD hS ls hl => w_M_create_0 CX o x1 x2 x3 x4 st h s.heap [] hP hD hS ls hl)
abbrev rm_M_link : Room := { frames := 5, cells := 0, slots := 0, locals := 118 }
def b_M_link_50 (x1 : Int32) (x2 : Int32) (x3 : Int32) (y0 : Int32) (st : fb_S) : Option (Int32 × fb_S) := (if y0 = (0 : Int32) then some ((-1 : Int32), st) else (fb_ld (st 4) 64 y0).bind fun v2 => (if v2 = (1 : Int32) then some ((-1 : Int32), st) else (fb_ld (st 7) 64 y0).bind fun v4 => (if v4 = (32767 : Int32) then some ((-1 : Int32), st) else (f_M_before x1 (x3 + (1 : Int32)) x2 st).bind fun r6 => (if r6.1 = (0 : Int32) then some ((-1 : Int32), r6.2) else (f_M_entry r6.1 r6.2).bind fun r8 => (if (0 : Int32) ≤ r8.1 then some ((-1 : Int32), r8.2) else (f_M_wants r6.1 r8.2).bind fun r10 => (f_M_left r10.2).bind fun r11 => (if r10.1 ≤ r11.1 then (f_M_enter r6.1 y0 r11.2).bind fun r13 => (fb_ld (r13.2 7) 64 y0).bind fun v14 => (fb_st r13.2 7 64 y0 (v14 + (1 : Int32))).bind fun s15 => some (y0, s15) else some ((-1 : Int32), r11.2)))))))
set_option maxHeartbeats 4000000 in
set_option maxRecDepth 100000 in
theorem w_M_link_50 {p : Program} {l : Launch} {e : Env} {s : State} {m : MethodId} {args : Array Value} {below : List Frame} {meth : Method} {c : Code} {A : Nat → Prop} {dC : Nat → ClassId} {dI : Nat → Nat → Nat} {dA : Nat → ClassId} {a : Nat → Nat} (CX : fb_C p s m args meth c kc_M_link (some .int) 6 "FileTreeModel" (dC, dI) vcl (tM dA) A zM) (o : Int32 × fb_S) (x1 : Int32) (x2 : Int32) (x3 : Int32) (y0 : Int32) (st : fb_S) (hF : b_M_link_50 x1 x2 x3 y0 st = some o) : fb_G p l e (headSpec kw_M_link rm_M_link).room s m args below meth c (dC, dI) vcl (tM dA) (wM dA a) A (some (.int o.1)) o.2 50 6 [(0, .ref (a 0)), (1, .int x1), (2, .int x2), (3, .int x3)] [.int y0] st := by
  intro H locs hP hD hS ls hl
  obtain ⟨hx, hb, hr, hml, hown, hts, hK, hA, hlocks, hZ⟩ := id CX
  unfold b_M_link_50 at hF
  refine lv_istore (lv' := [(4, .int y0), (0, .ref (a 0)), (1, .int x1), (2, .int x2), (3, .int x3)]) hx hb kd_M_link_50 hl (by decide) rfl (fun ls hl => ?_)
  refine lv_iload hx hb kd_M_link_52 (lv_at hl 0 rfl) ?_
  refine lv_if_eq (tgt := 81) hx hb kd_M_link_54 (by decide) (fun c1 => ?_) (fun c1 => ?_)
  · rw [if_pos c1] at hF
    refine lv_iconst (v := (-1)) hx hb kd_M_link_81 (by decide) ?_
    exact fb_ri (o := o) hx hb hr hlocks hK hP hD hS hF kd_M_link_82
  · rw [if_neg c1] at hF
    refine lv_aload_n hx hb kd_M_link_57 rfl (lv_at hl 1 rfl) ?_
    refine va_get (D := (dC, dI)) (ci := 5) (v := .ref (a 5)) (C := "FileTreeModel") (T := ft_M) (N := 18) hx hb hts fi_M hown hK hP 0 rfl rfl 6 (by decide) (hts _ q_475) (fun _ h9 => h9) rfl kd_M_link_58 ?_
    refine lv_iload hx hb kd_M_link_61 (lv_at hl 0 rfl) ?_
    obtain ⟨v2, e_v2, hF⟩ := fb_ob hF
    refine fb_iald hx hb hK hP 5 0 rfl rfl e_v2 kd_M_link_63 ?_
    refine lv_iconst (v := 1) hx hb kd_M_link_64 (by decide) ?_
    refine lv_icmp_eq (tgt := 81) hx hb kd_M_link_65 (by decide) (fun c3 => ?_) (fun c3 => ?_)
    · rw [if_pos c3] at hF
      refine lv_iconst (v := (-1)) hx hb kd_M_link_81 (by decide) ?_
      exact fb_ri (o := o) hx hb hr hlocks hK hP hD hS hF kd_M_link_82
    · rw [if_neg c3] at hF
      refine lv_aload_n hx hb kd_M_link_68 rfl (lv_at hl 1 rfl) ?_
      refine va_get (D := (dC, dI)) (ci := 5) (v := .ref (a 8)) (C := "FileTreeModel") (T := ft_M) (N := 18) hx hb hts fi_M hown hK hP 0 rfl rfl 9 (by decide) (hts _ q_478) (fun _ h9 => h9) rfl kd_M_link_69 ?_
      refine lv_iload hx hb kd_M_link_72 (lv_at hl 0 rfl) ?_
      obtain ⟨v4, e_v4, hF⟩ := fb_ob hF
      refine fb_iald hx hb hK hP 8 0 rfl rfl e_v4 kd_M_link_74 ?_
      refine lv_sipush (v := 32767) hx hb kd_M_link_75 (by decide) ?_
      refine lv_icmp_ne (tgt := 83) hx hb kd_M_link_78 (by decide) (fun c5 => ?_) (fun c5 => ?_)
      · rw [if_neg c5] at hF
        refine lv_aload_n hx hb kd_M_link_83 rfl (lv_at hl 1 rfl) ?_
        refine lv_iload_n hx hb kd_M_link_84 rfl (lv_at hl 2 rfl) ?_
        refine lv_iload_n hx hb kd_M_link_85 rfl (lv_at hl 4 rfl) ?_
        refine lv_iconst (v := 1) hx hb kd_M_link_86 (by decide) ?_
        refine lv_iadd hx hb kd_M_link_87 ?_
        refine lv_iload_n hx hb kd_M_link_88 rfl (lv_at hl 3 rfl) ?_
        obtain ⟨r6, e_r6, hF⟩ := fb_ob hF
        refine fb_callV (As := [.int x1, .int (x3 + (1 : Int32)), .int x2]) (rest := []) ⟨hx, hb, hml, hown, hts⟩ zM_mv hZ hK hP hD hS hA (c_M_before l dC dI dA a x1 (x3 + (1 : Int32)) x2 st r6 e_r6) (cwV 3 hts (gd_V q_577 ko_M_before) rfl rfl rfl kh_M_before ⟨Nat.le_of_ble_eq_true rfl, Nat.le_of_ble_eq_true rfl⟩) 5 0 rfl rfl rfl rfl hl.1 rfl (Nat.le_of_ble_eq_true rfl) kd_M_link_89 ⟨Nat.zero_le _, Nat.zero_le _⟩ (fun H locs hP hD hS => ?_)
        refine W.eq (g2 := F0 m 92 ls [.int r6.1]) rfl ?_
        refine lv_istore (lv' := [(5, .int r6.1), (4, .int y0), (0, .ref (a 0)), (1, .int x1), (2, .int x2), (3, .int x3)]) hx hb kd_M_link_92 hl (by decide) rfl (fun ls hl => ?_)
        refine lv_iload hx hb kd_M_link_94 (lv_at hl 0 rfl) ?_
        refine lv_if_eq (tgt := 121) hx hb kd_M_link_96 (by decide) (fun c7 => ?_) (fun c7 => ?_)
        · rw [if_pos c7] at hF
          refine lv_iconst (v := (-1)) hx hb kd_M_link_121 (by decide) ?_
          exact fb_ri (o := o) hx hb hr hlocks hK hP hD hS hF kd_M_link_122
        · rw [if_neg c7] at hF
          refine lv_aload_n hx hb kd_M_link_99 rfl (lv_at hl 2 rfl) ?_
          refine lv_iload hx hb kd_M_link_100 (lv_at hl 0 rfl) ?_
          obtain ⟨r8, e_r8, hF⟩ := fb_ob hF
          refine fb_callV (As := [.int r6.1]) (rest := []) ⟨hx, hb, hml, hown, hts⟩ zM_mv hZ hK hP hD hS hA (c_M_entry l dC dI dA a r6.1 r6.2 r8 e_r8) (cwV 1 hts (gd_V q_565 ko_M_entry) rfl rfl rfl kh_M_entry ⟨Nat.le_of_ble_eq_true rfl, Nat.le_of_ble_eq_true rfl⟩) 5 0 rfl rfl rfl rfl hl.1 rfl (Nat.le_of_ble_eq_true rfl) kd_M_link_102 ⟨Nat.zero_le _, Nat.zero_le _⟩ (fun H locs hP hD hS => ?_)
          refine W.eq (g2 := F0 m 105 ls [.int r8.1]) rfl ?_
          refine lv_if_ge (tgt := 121) hx hb kd_M_link_105 (by decide) (fun c9 => ?_) (fun c9 => ?_)
          · rw [if_pos c9] at hF
            refine lv_iconst (v := (-1)) hx hb kd_M_link_121 (by decide) ?_
            exact fb_ri (o := o) hx hb hr hlocks hK hP hD hS hF kd_M_link_122
          · rw [if_neg c9] at hF
            refine lv_aload_n hx hb kd_M_link_108 rfl (lv_at hl 2 rfl) ?_
            refine lv_iload hx hb kd_M_link_109 (lv_at hl 0 rfl) ?_
            obtain ⟨r10, e_r10, hF⟩ := fb_ob hF
            refine fb_callV (As := [.int r6.1]) (rest := []) ⟨hx, hb, hml, hown, hts⟩ zM_mv hZ hK hP hD hS hA (c_M_wants l dC dI dA a r6.1 r8.2 r10 e_r10) (cwV 1 hts (gd_V q_581 ko_M_wants) rfl rfl rfl kh_M_wants ⟨Nat.le_of_ble_eq_true rfl, Nat.le_of_ble_eq_true rfl⟩) 5 0 rfl rfl rfl rfl hl.1 rfl (Nat.le_of_ble_eq_true rfl) kd_M_link_111 ⟨Nat.zero_le _, Nat.zero_le _⟩ (fun H locs hP hD hS => ?_)
            refine W.eq (g2 := F0 m 114 ls [.int r10.1]) rfl ?_
            refine lv_aload_n hx hb kd_M_link_114 rfl (lv_at hl 2 rfl) ?_
            obtain ⟨r11, e_r11, hF⟩ := fb_ob hF
            refine fb_callV (As := []) (rest := [.int r10.1]) ⟨hx, hb, hml, hown, hts⟩ zM_mv hZ hK hP hD hS hA (c_M_left l dC dI dA a r10.2 r11 e_r11) (cwV 0 hts (gd_V q_594 ko_M_left) rfl rfl rfl kh_M_left ⟨Nat.le_of_ble_eq_true rfl, Nat.le_of_ble_eq_true rfl⟩) 5 0 rfl rfl rfl rfl hl.1 rfl (Nat.le_of_ble_eq_true rfl) kd_M_link_115 ⟨Nat.zero_le _, Nat.zero_le _⟩ (fun H locs hP hD hS => ?_)
            refine W.eq (g2 := F0 m 118 ls [.int r11.1, .int r10.1]) rfl ?_
            refine lv_icmp_le (tgt := 123) hx hb kd_M_link_118 (by decide) (fun c12 => ?_) (fun c12 => ?_)
            · rw [if_pos c12] at hF
              refine lv_aload_n hx hb kd_M_link_123 rfl (lv_at hl 2 rfl) ?_
              refine lv_iload hx hb kd_M_link_124 (lv_at hl 0 rfl) ?_
              refine lv_iload hx hb kd_M_link_126 (lv_at hl 1 rfl) ?_
              obtain ⟨r13, e_r13, hF⟩ := fb_ob hF
              refine fb_callV (As := [.int r6.1, .int y0]) (rest := []) ⟨hx, hb, hml, hown, hts⟩ zM_mv hZ hK hP hD hS hA (c_M_enter l dC dI dA a r6.1 y0 r11.2 r13 e_r13) (cwV 2 hts (gd_V q_603 ko_M_enter) rfl rfl rfl kh_M_enter ⟨Nat.le_of_ble_eq_true rfl, Nat.le_of_ble_eq_true rfl⟩) 5 0 rfl rfl rfl rfl hl.1 rfl (Nat.le_of_ble_eq_true rfl) kd_M_link_128 ⟨Nat.zero_le _, Nat.zero_le _⟩ (fun H locs hP hD hS => ?_)
              refine W.eq (g2 := F0 m 131 ls []) rfl ?_
              refine lv_aload_n hx hb kd_M_link_131 rfl (lv_at hl 2 rfl) ?_
              refine va_get (D := (dC, dI)) (ci := 5) (v := .ref (a 8)) (C := "FileTreeModel") (T := ft_M) (N := 18) hx hb hts fi_M hown hK hP 0 rfl rfl 9 (by decide) (hts _ q_478) (fun _ h9 => h9) rfl kd_M_link_132 ?_
              refine lv_iload hx hb kd_M_link_135 (lv_at hl 1 rfl) ?_
              refine lv_dup2_11 hx hb kd_M_link_137 rfl rfl ?_
              obtain ⟨v14, e_v14, hF⟩ := fb_ob hF
              refine fb_iald hx hb hK hP 8 0 rfl rfl e_v14 kd_M_link_138 ?_
              refine lv_iconst (v := 1) hx hb kd_M_link_139 (by decide) ?_
              refine lv_iadd hx hb kd_M_link_140 ?_
              obtain ⟨s15, e_s15, hF⟩ := fb_ob hF
              refine fb_iast (wx := (wM dA a)) (k := 7) hx hb hK hP hD hS 8 0 rfl rfl e_s15 (fun _ => rfl) kd_M_link_141 (fun H locs hP hD hS => ?_)
              refine lv_iload hx hb kd_M_link_142 (lv_at hl 1 rfl) ?_
              exact fb_ri (o := o) hx hb hr hlocks hK hP hD hS hF kd_M_link_144
            · rw [if_neg c12] at hF
              refine lv_iconst (v := (-1)) hx hb kd_M_link_121 (by decide) ?_
              exact fb_ri (o := o) hx hb hr hlocks hK hP hD hS hF kd_M_link_122
      · rw [if_pos c5] at hF
        refine lv_iconst (v := (-1)) hx hb kd_M_link_81 (by decide) ?_
        exact fb_ri (o := o) hx hb hr hlocks hK hP hD hS hF kd_M_link_82
def b_M_link_34 (x1 : Int32) (x2 : Int32) (x3 : Int32) (st : fb_S) : Option (Int32 × fb_S) := (if x2 ≤ x3 then b_M_link_50 x1 x2 x3 (0 : Int32) st else (f_M_leads x1 (0 : Int32) x3 st).bind fun r2 => b_M_link_50 x1 x2 x3 r2.1 r2.2)
set_option maxHeartbeats 4000000 in
set_option maxRecDepth 100000 in
theorem w_M_link_34 {p : Program} {l : Launch} {e : Env} {s : State} {m : MethodId} {args : Array Value} {below : List Frame} {meth : Method} {c : Code} {A : Nat → Prop} {dC : Nat → ClassId} {dI : Nat → Nat → Nat} {dA : Nat → ClassId} {a : Nat → Nat} (CX : fb_C p s m args meth c kc_M_link (some .int) 6 "FileTreeModel" (dC, dI) vcl (tM dA) A zM) (o : Int32 × fb_S) (x1 : Int32) (x2 : Int32) (x3 : Int32) (st : fb_S) (hF : b_M_link_34 x1 x2 x3 st = some o) : fb_G p l e (headSpec kw_M_link rm_M_link).room s m args below meth c (dC, dI) vcl (tM dA) (wM dA a) A (some (.int o.1)) o.2 34 6 [(0, .ref (a 0)), (1, .int x1), (2, .int x2), (3, .int x3)] [] st := by
  intro H locs hP hD hS ls hl
  obtain ⟨hx, hb, hr, hml, hown, hts, hK, hA, hlocks, hZ⟩ := id CX
  unfold b_M_link_34 at hF
  refine lv_iload_n hx hb kd_M_link_34 rfl (lv_at hl 3 rfl) ?_
  refine lv_iload_n hx hb kd_M_link_35 rfl (lv_at hl 2 rfl) ?_
  refine lv_icmp_ge (tgt := 49) hx hb kd_M_link_36 (by decide) (fun c1 => ?_) (fun c1 => ?_)
  · rw [if_pos c1] at hF
    refine lv_iconst (v := 0) hx hb kd_M_link_49 (by decide) ?_
    exact w_M_link_50 CX o x1 x2 x3 (0 : Int32) st hF H locs hP hD hS ls (lv_sub hl [0, 1, 2, 3] rfl)
  · rw [if_neg c1] at hF
    refine lv_aload_n hx hb kd_M_link_39 rfl (lv_at hl 0 rfl) ?_
    refine lv_iload_n hx hb kd_M_link_40 rfl (lv_at hl 1 rfl) ?_
    refine lv_iconst (v := 0) hx hb kd_M_link_41 (by decide) ?_
    refine lv_iload_n hx hb kd_M_link_42 rfl (lv_at hl 3 rfl) ?_
    obtain ⟨r2, e_r2, hF⟩ := fb_ob hF
    refine fb_callV (As := [.int x1, .int (0 : Int32), .int x3]) (rest := []) ⟨hx, hb, hml, hown, hts⟩ zM_mv hZ hK hP hD hS hA (c_M_leads l dC dI dA a x1 (0 : Int32) x3 st r2 e_r2) (cwV 3 hts (gd_V q_538 ko_M_leads) rfl rfl rfl kh_M_leads ⟨Nat.le_of_ble_eq_true rfl, Nat.le_of_ble_eq_true rfl⟩) 5 0 rfl rfl rfl rfl hl.1 rfl (Nat.le_of_ble_eq_true rfl) kd_M_link_43 ⟨Nat.zero_le _, Nat.zero_le _⟩ (fun H locs hP hD hS => ?_)
    refine W.eq (g2 := F0 m 46 ls [.int r2.1]) rfl ?_
    refine lv_goto (tgt := 50) hx hb kd_M_link_46 (by decide) ?_
    exact w_M_link_50 CX o x1 x2 x3 r2.1 r2.2 hF H locs hP hD hS ls (lv_sub hl [0, 1, 2, 3] rfl)
def b_M_link_12 (k12 : Int32 → Int32 → Int32 → fb_S → Option (Int32 × fb_S)) (x1 : Int32) (x2 : Int32) (x3 : Int32) (st : fb_S) : Option (Int32 × fb_S) := (if x2 ≤ x3 then b_M_link_34 x1 x2 x3 st else (fb_ld (st 0) 260 x3).bind fun v2 => (if v2 = (32 : Int32) then b_M_link_34 x1 x2 x3 st else k12 x1 x2 (x3 + (1 : Int32)) st))
set_option maxHeartbeats 4000000 in
set_option maxRecDepth 100000 in
theorem w_M_link_12 {p : Program} {l : Launch} {e : Env} {s : State} {m : MethodId} {args : Array Value} {below : List Frame} {meth : Method} {c : Code} {A : Nat → Prop} {dC : Nat → ClassId} {dI : Nat → Nat → Nat} {dA : Nat → ClassId} {a : Nat → Nat} (CX : fb_C p s m args meth c kc_M_link (some .int) 6 "FileTreeModel" (dC, dI) vcl (tM dA) A zM) (o : Int32 × fb_S) (k12 : Int32 → Int32 → Int32 → fb_S → Option (Int32 × fb_S)) (hk12 : ∀ (x1 : Int32) (x2 : Int32) (x3 : Int32) (st : fb_S), k12 x1 x2 x3 st = some o → fb_G p l e (headSpec kw_M_link rm_M_link).room s m args below meth c (dC, dI) vcl (tM dA) (wM dA a) A (some (.int o.1)) o.2 12 6 [(0, .ref (a 0)), (1, .int x1), (2, .int x2), (3, .int x3)] [] st) (x1 : Int32) (x2 : Int32) (x3 : Int32) (st : fb_S) (hF : b_M_link_12 k12 x1 x2 x3 st = some o) : fb_G p l e (headSpec kw_M_link rm_M_link).room s m args below meth c (dC, dI) vcl (tM dA) (wM dA a) A (some (.int o.1)) o.2 12 6 [(0, .ref (a 0)), (1, .int x1), (2, .int x2), (3, .int x3)] [] st := by
  intro H locs hP hD hS ls hl
  obtain ⟨hx, hb, hr, hml, hown, hts, hK, hA, hlocks, hZ⟩ := id CX
  unfold b_M_link_12 at hF
  refine lv_iload_n hx hb kd_M_link_12 rfl (lv_at hl 3 rfl) ?_
  refine lv_iload_n hx hb kd_M_link_13 rfl (lv_at hl 2 rfl) ?_
  refine lv_icmp_ge (tgt := 34) hx hb kd_M_link_14 (by decide) (fun c1 => ?_) (fun c1 => ?_)
  · rw [if_pos c1] at hF
    exact w_M_link_34 CX o x1 x2 x3 st hF H locs hP hD hS ls (lv_sub hl [0, 1, 2, 3] rfl)
  · rw [if_neg c1] at hF
    refine lv_aload_n hx hb kd_M_link_17 rfl (lv_at hl 0 rfl) ?_
    refine va_get (D := (dC, dI)) (ci := 5) (v := .ref (a 1)) (C := "FileTreeModel") (T := ft_M) (N := 18) hx hb hts fi_M hown hK hP 0 rfl rfl 2 (by decide) (hts _ q_471) (fun _ h9 => h9) rfl kd_M_link_18 ?_
    refine lv_iload_n hx hb kd_M_link_21 rfl (lv_at hl 3 rfl) ?_
    obtain ⟨v2, e_v2, hF⟩ := fb_ob hF
    refine fb_bald hx hb hK hP 1 1 rfl rfl e_v2 kd_M_link_22 ?_
    refine lv_bipush (v := 32) hx hb kd_M_link_23 (by decide) ?_
    refine lv_icmp_eq (tgt := 34) hx hb kd_M_link_25 (by decide) (fun c3 => ?_) (fun c3 => ?_)
    · rw [if_pos c3] at hF
      exact w_M_link_34 CX o x1 x2 x3 st hF H locs hP hD hS ls (lv_sub hl [0, 1, 2, 3] rfl)
    · rw [if_neg c3] at hF
      refine lv_iinc (v := x3 + (1 : Int32)) (lv' := [(3, .int (x3 + (1 : Int32))), (0, .ref (a 0)), (1, .int x1), (2, .int x2)]) hx hb kd_M_link_28 hl (k := 3) rfl rfl (by decide) rfl (fun ls hl => ?_)
      refine lv_goto (tgt := 12) hx hb kd_M_link_31 (by decide) ?_
      exact hk12 x1 x2 (x3 + (1 : Int32)) st hF H locs hP hD hS ls (lv_sub hl [1, 2, 3, 0] rfl)
def l_M_link_12 : Nat → Int32 → Int32 → Int32 → fb_S → Option (Int32 × fb_S)
  | 0 => fun _ _ _ _ => none
  | n + 1 => b_M_link_12 (l_M_link_12 n)
theorem v_M_link_12 {p : Program} {l : Launch} {e : Env} {s : State} {m : MethodId} {args : Array Value} {below : List Frame} {meth : Method} {c : Code} {A : Nat → Prop} {dC : Nat → ClassId} {dI : Nat → Nat → Nat} {dA : Nat → ClassId} {a : Nat → Nat} (CX : fb_C p s m args meth c kc_M_link (some .int) 6 "FileTreeModel" (dC, dI) vcl (tM dA) A zM) (o : Int32 × fb_S) (n : Nat) : ∀ (x1 : Int32) (x2 : Int32) (x3 : Int32) (st : fb_S), l_M_link_12 n x1 x2 x3 st = some o → fb_G p l e (headSpec kw_M_link rm_M_link).room s m args below meth c (dC, dI) vcl (tM dA) (wM dA a) A (some (.int o.1)) o.2 12 6 [(0, .ref (a 0)), (1, .int x1), (2, .int x2), (3, .int x3)] [] st := by
  induction n with
  | zero => intro x1 x2 x3 st hF; cases hF
  | succ n ih => intro x1 x2 x3 st hF; exact w_M_link_12 CX o (l_M_link_12 n) ih x1 x2 x3 st hF
def f_M_link (x1 : Int32) (st : fb_S) : Option (Int32 × fb_S) := (fb_pf st 14 (0 : Int32)).bind fun s1 => (f_M_taken s1).bind fun r2 => l_M_link_12 fb_n x1 r2.1 (0 : Int32) r2.2
set_option maxHeartbeats 4000000 in
set_option maxRecDepth 100000 in
theorem w_M_link_0 {p : Program} {l : Launch} {e : Env} {s : State} {m : MethodId} {args : Array Value} {below : List Frame} {meth : Method} {c : Code} {A : Nat → Prop} {dC : Nat → ClassId} {dI : Nat → Nat → Nat} {dA : Nat → ClassId} {a : Nat → Nat} (CX : fb_C p s m args meth c kc_M_link (some .int) 6 "FileTreeModel" (dC, dI) vcl (tM dA) A zM) (o : Int32 × fb_S) (x1 : Int32) (st : fb_S) (hF : f_M_link x1 st = some o) : fb_G p l e (headSpec kw_M_link rm_M_link).room s m args below meth c (dC, dI) vcl (tM dA) (wM dA a) A (some (.int o.1)) o.2 0 6 [(0, .ref (a 0)), (1, .int x1)] [] st := by
  intro H locs hP hD hS ls hl
  obtain ⟨hx, hb, hr, hml, hown, hts, hK, hA, hlocks, hZ⟩ := id CX
  unfold f_M_link at hF
  refine lv_aload_n hx hb kd_M_link_0 rfl (lv_at hl 0 rfl) ?_
  refine lv_iconst (v := 0) hx hb kd_M_link_1 (by decide) ?_
  obtain ⟨s1, e_s1, hF⟩ := fb_ob hF
  refine va_put (D := (dC, dI)) (ci := 5) (v := .int (0 : Int32)) (ty := .int) (C := "FileTreeModel") (T := ft_M) (N := 18) hx hb hts fi_M fy_M fo_M fn_M hown hK hP hD hS 0 rfl rfl 0 (by decide) (hts _ q_469) (fun _ h9 => h9) rfl (by decide +kernel) rfl rfl (Nat.le_of_ble_eq_true rfl) kd_M_link_2 (fun H locs hP hD hS => ?_)
  cases e_s1
  obtain ⟨s1, e_s1⟩ : ∃ z : fb_S, z = va_up st 14 (upd (st 14) 0 (0 : Int32)) := ⟨_, rfl⟩
  rw [← e_s1] at hF
  have hP : va_P (dC, dI) vcl ((wM dA a) s1) H := by rw [e_s1]; exact hP
  have hD : va_D A ((wM dA a) s1) := by rw [e_s1]; exact hD
  refine lv_aload_n hx hb kd_M_link_5 rfl (lv_at hl 0 rfl) ?_
  obtain ⟨r2, e_r2, hF⟩ := fb_ob hF
  refine fb_callV (As := []) (rest := []) ⟨hx, hb, hml, hown, hts⟩ zM_mv hZ hK hP hD hS hA (c_M_taken l dC dI dA a s1 r2 e_r2) (cwV 0 hts (gd_V q_534 ko_M_taken) rfl rfl rfl kh_M_taken ⟨Nat.le_of_ble_eq_true rfl, Nat.le_of_ble_eq_true rfl⟩) 5 0 rfl rfl rfl rfl hl.1 rfl (Nat.le_of_ble_eq_true rfl) kd_M_link_6 ⟨Nat.zero_le _, Nat.zero_le _⟩ (fun H locs hP hD hS => ?_)
  refine W.eq (g2 := F0 m 9 ls [.int r2.1]) rfl ?_
  refine lv_istore_n (lv' := [(2, .int r2.1), (0, .ref (a 0)), (1, .int x1)]) hx hb kd_M_link_9 rfl hl (by decide) rfl (fun ls hl => ?_)
  refine lv_iconst (v := 0) hx hb kd_M_link_10 (by decide) ?_
  refine lv_istore_n (lv' := [(3, .int (0 : Int32)), (2, .int r2.1), (0, .ref (a 0)), (1, .int x1)]) hx hb kd_M_link_11 rfl hl (by decide) rfl (fun ls hl => ?_)
  exact v_M_link_12 CX o fb_n x1 r2.1 (0 : Int32) r2.2 hF H locs hP hD hS ls (lv_sub hl [2, 3, 1, 0] rfl)
theorem c_M_link (l : Launch) (dC : Nat → ClassId) (dI : Nat → Nat → Nat) (dA : Nat → ClassId) (a : Nat → Nat) (x1 : Int32) (st : fb_S) (o : Int32 × fb_S) (h : f_M_link x1 st = some o) : fb_M l ky_M_link kw_M_link rm_M_link (dC, dI) vcl (tM dA) (wM dA a) zM [.ref (a 0), .int x1] (some (.int o.1)) st o.2 := fb_enter (by decide) rfl (Nat.le_of_ble_eq_true rfl) (fun p e s m below meth c A CX hP hD hS ls hl => w_M_link_0 CX o x1 st h s.heap [] hP hD hS ls hl)
abbrev rm_M_erase : Room := { frames := 1, cells := 0, slots := 0, locals := 22 }
def b_M_erase_10 (k10 : Int32 → Int32 → fb_S → Option (Int32 × fb_S)) (x3 : Int32) (x4 : Int32) (st : fb_S) : Option (Int32 × fb_S) := (if (16 : Int32) ≤ x4 then some (0, st) else (fb_st st 2 524288 (x3 + x4) (fb_b (0 : Int32))).bind fun s2 => k10 x3 (x4 + (1 : Int32)) s2)
set_option maxHeartbeats 4000000 in
set_option maxRecDepth 100000 in
theorem w_M_erase_10 {p : Program} {l : Launch} {e : Env} {s : State} {m : MethodId} {args : Array Value} {below : List Frame} {meth : Method} {c : Code} {A : Nat → Prop} {dC : Nat → ClassId} {dI : Nat → Nat → Nat} {dA : Nat → ClassId} {a : Nat → Nat} (CX : fb_C p s m args meth c kc_M_erase none 5 "FileTreeModel" (dC, dI) vcl (tM dA) A zM) (o : Int32 × fb_S) (k10 : Int32 → Int32 → fb_S → Option (Int32 × fb_S)) (hk10 : ∀ (x3 : Int32) (x4 : Int32) (st : fb_S), k10 x3 x4 st = some o → fb_G p l e (headSpec kw_M_erase rm_M_erase).room s m args below meth c (dC, dI) vcl (tM dA) (wM dA a) A none o.2 10 5 [(0, .ref (a 0)), (3, .int x3), (4, .int x4)] [] st) (x3 : Int32) (x4 : Int32) (st : fb_S) (hF : b_M_erase_10 k10 x3 x4 st = some o) : fb_G p l e (headSpec kw_M_erase rm_M_erase).room s m args below meth c (dC, dI) vcl (tM dA) (wM dA a) A none o.2 10 5 [(0, .ref (a 0)), (3, .int x3), (4, .int x4)] [] st := by
  intro H locs hP hD hS ls hl
  obtain ⟨hx, hb, hr, hml, hown, hts, hK, hA, hlocks, hZ⟩ := id CX
  unfold b_M_erase_10 at hF
  refine lv_iload hx hb kd_M_erase_10 (lv_at hl 2 rfl) ?_
  refine lv_bipush (v := 16) hx hb kd_M_erase_12 (by decide) ?_
  refine lv_icmp_ge (tgt := 33) hx hb kd_M_erase_14 (by decide) (fun c1 => ?_) (fun c1 => ?_)
  · rw [if_pos c1] at hF
    exact fb_rv (o := o) hx hb hr hlocks hK hP hD hS hF kd_M_erase_33
  · rw [if_neg c1] at hF
    refine lv_aload_n hx hb kd_M_erase_17 rfl (lv_at hl 0 rfl) ?_
    refine va_get (D := (dC, dI)) (ci := 5) (v := .ref (a 3)) (C := "FileTreeModel") (T := ft_M) (N := 18) hx hb hts fi_M hown hK hP 0 rfl rfl 4 (by decide) (hts _ q_473) (fun _ h9 => h9) rfl kd_M_erase_18 ?_
    refine lv_iload_n hx hb kd_M_erase_21 rfl (lv_at hl 1 rfl) ?_
    refine lv_iload hx hb kd_M_erase_22 (lv_at hl 2 rfl) ?_
    refine lv_iadd hx hb kd_M_erase_24 ?_
    refine lv_iconst (v := 0) hx hb kd_M_erase_25 (by decide) ?_
    obtain ⟨s2, e_s2, hF⟩ := fb_ob hF
    refine fb_bast (wx := (wM dA a)) (k := 2) hx hb hK hP hD hS 3 1 rfl rfl e_s2 (fun _ => rfl) kd_M_erase_26 (fun H locs hP hD hS => ?_)
    refine lv_iinc (v := x4 + (1 : Int32)) (lv' := [(4, .int (x4 + (1 : Int32))), (0, .ref (a 0)), (3, .int x3)]) hx hb kd_M_erase_27 hl (k := 2) rfl rfl (by decide) rfl (fun ls hl => ?_)
    refine lv_goto (tgt := 10) hx hb kd_M_erase_30 (by decide) ?_
    exact hk10 x3 (x4 + (1 : Int32)) s2 hF H locs hP hD hS ls (lv_sub hl [1, 2, 0] rfl)
def l_M_erase_10 : Nat → Int32 → Int32 → fb_S → Option (Int32 × fb_S)
  | 0 => fun _ _ _ => none
  | n + 1 => b_M_erase_10 (l_M_erase_10 n)
theorem v_M_erase_10 {p : Program} {l : Launch} {e : Env} {s : State} {m : MethodId} {args : Array Value} {below : List Frame} {meth : Method} {c : Code} {A : Nat → Prop} {dC : Nat → ClassId} {dI : Nat → Nat → Nat} {dA : Nat → ClassId} {a : Nat → Nat} (CX : fb_C p s m args meth c kc_M_erase none 5 "FileTreeModel" (dC, dI) vcl (tM dA) A zM) (o : Int32 × fb_S) (n : Nat) : ∀ (x3 : Int32) (x4 : Int32) (st : fb_S), l_M_erase_10 n x3 x4 st = some o → fb_G p l e (headSpec kw_M_erase rm_M_erase).room s m args below meth c (dC, dI) vcl (tM dA) (wM dA a) A none o.2 10 5 [(0, .ref (a 0)), (3, .int x3), (4, .int x4)] [] st := by
  induction n with
  | zero => intro x3 x4 st hF; cases hF
  | succ n ih => intro x3 x4 st hF; exact w_M_erase_10 CX o (l_M_erase_10 n) ih x3 x4 st hF
def f_M_erase (x1 : Int32) (x2 : Int32) (st : fb_S) : Option (Int32 × fb_S) := (f_M_place x1 x2 st).bind fun r1 => l_M_erase_10 fb_n r1.1 (0 : Int32) r1.2
set_option maxHeartbeats 4000000 in
set_option maxRecDepth 100000 in
theorem w_M_erase_0 {p : Program} {l : Launch} {e : Env} {s : State} {m : MethodId} {args : Array Value} {below : List Frame} {meth : Method} {c : Code} {A : Nat → Prop} {dC : Nat → ClassId} {dI : Nat → Nat → Nat} {dA : Nat → ClassId} {a : Nat → Nat} (CX : fb_C p s m args meth c kc_M_erase none 5 "FileTreeModel" (dC, dI) vcl (tM dA) A zM) (o : Int32 × fb_S) (x1 : Int32) (x2 : Int32) (st : fb_S) (hF : f_M_erase x1 x2 st = some o) : fb_G p l e (headSpec kw_M_erase rm_M_erase).room s m args below meth c (dC, dI) vcl (tM dA) (wM dA a) A none o.2 0 5 [(0, .ref (a 0)), (1, .int x1), (2, .int x2)] [] st := by
  intro H locs hP hD hS ls hl
  obtain ⟨hx, hb, hr, hml, hown, hts, hK, hA, hlocks, hZ⟩ := id CX
  unfold f_M_erase at hF
  refine lv_aload_n hx hb kd_M_erase_0 rfl (lv_at hl 0 rfl) ?_
  refine lv_iload_n hx hb kd_M_erase_1 rfl (lv_at hl 1 rfl) ?_
  refine lv_iload_n hx hb kd_M_erase_2 rfl (lv_at hl 2 rfl) ?_
  obtain ⟨r1, e_r1, hF⟩ := fb_ob hF
  refine fb_callV (As := [.int x1, .int x2]) (rest := []) ⟨hx, hb, hml, hown, hts⟩ zM_mv hZ hK hP hD hS hA (c_M_place l dC dI dA a x1 x2 st r1 e_r1) (cwV 2 hts (gd_V q_465 ko_M_place) rfl rfl rfl kh_M_place ⟨Nat.le_of_ble_eq_true rfl, Nat.le_of_ble_eq_true rfl⟩) 5 0 rfl rfl rfl rfl hl.1 rfl (Nat.le_of_ble_eq_true rfl) kd_M_erase_3 ⟨Nat.zero_le _, Nat.zero_le _⟩ (fun H locs hP hD hS => ?_)
  refine W.eq (g2 := F0 m 6 ls [.int r1.1]) rfl ?_
  refine lv_istore_n (lv' := [(3, .int r1.1), (0, .ref (a 0)), (1, .int x1), (2, .int x2)]) hx hb kd_M_erase_6 rfl hl (by decide) rfl (fun ls hl => ?_)
  refine lv_iconst (v := 0) hx hb kd_M_erase_7 (by decide) ?_
  refine lv_istore (lv' := [(4, .int (0 : Int32)), (3, .int r1.1), (0, .ref (a 0)), (1, .int x1), (2, .int x2)]) hx hb kd_M_erase_8 hl (by decide) rfl (fun ls hl => ?_)
  exact v_M_erase_10 CX o fb_n r1.1 (0 : Int32) r1.2 hF H locs hP hD hS ls (lv_sub hl [2, 1, 0] rfl)
theorem c_M_erase (l : Launch) (dC : Nat → ClassId) (dI : Nat → Nat → Nat) (dA : Nat → ClassId) (a : Nat → Nat) (x1 : Int32) (x2 : Int32) (st : fb_S) (o : Int32 × fb_S) (h : f_M_erase x1 x2 st = some o) : fb_M l ky_M_erase kw_M_erase rm_M_erase (dC, dI) vcl (tM dA) (wM dA a) zM [.ref (a 0), .int x1, .int x2] none st o.2 := fb_enter (by decide) rfl (Nat.le_of_ble_eq_true rfl) (fun p e s m below meth c A CX hP hD hS ls hl => w_M_erase_0 CX o x1 x2 st h s.heap [] hP hD hS ls hl)
