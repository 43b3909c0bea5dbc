abbrev rm_I_put_buffer : Room := { frames := 4, cells := 0, slots := 0, locals := 94 }
def b_I_put_buffer_132 (x1 : Int32) (x2 : Int32) (x6 : Int32) (st : fb_S) : Option (Int32 × fb_S) := (f_I_sizeOf x1 st).bind fun r1 => (f_I_setSize x1 (fb_max x6 r1.1) r1.2).bind fun r2 => some (x6 - x2, r2.2)
set_option maxHeartbeats 4000000 in
set_option maxRecDepth 100000 in
theorem w_I_put_buffer_132 {p : Program} {l : Launch} {e : Env} {s : State} {m : MethodId} {args : Array Value} {below : List Frame} {meth : Method} {c : Code} {A : Nat → Prop} {dC : Nat → ClassId} {dI : Nat → Nat → Nat} {dA : Nat → ClassId} {a : Nat → Nat} {z : Nat → Nat} (CX : fb_C p s m args meth c kc_I_put (some .int) 11 "FileTree$Inodes" (dC, dI) vcl (tX dA) A (zX z)) (o : Int32 × fb_S) (x1 : Int32) (x2 : Int32) (x6 : Int32) (st : fb_S) (hF : b_I_put_buffer_132 x1 x2 x6 st = some o) : fb_G p l e (headSpec kw_I_put rm_I_put_buffer).room s m args below meth c (dC, dI) vcl (tX dA) (wX dA a) A (some (.int o.1)) o.2 132 11 [(0, .ref (a 2)), (1, .int x1), (2, .int x2), (6, .int x6)] [] st := by
  intro H locs hP hD hS ls hl
  obtain ⟨hx, hb, hr, hml, hown, hts, hK, hA, hlocks, hZ⟩ := id CX
  unfold b_I_put_buffer_132 at hF
  refine lv_aload_n hx hb kd_I_put_132 rfl (lv_at hl 0 rfl) ?_
  refine lv_iload_n hx hb kd_I_put_133 rfl (lv_at hl 1 rfl) ?_
  refine lv_iload hx hb kd_I_put_134 (lv_at hl 3 rfl) ?_
  refine lv_aload_n hx hb kd_I_put_136 rfl (lv_at hl 0 rfl) ?_
  refine lv_iload_n hx hb kd_I_put_137 rfl (lv_at hl 1 rfl) ?_
  obtain ⟨r1, e_r1, hF⟩ := fb_ob hF
  refine fb_callV (As := [.int x1]) (rest := [.int x6, .int x1, .ref (a 2)]) ⟨hx, hb, hml, hown, hts⟩ zX_mv hZ hK hP hD hS hA (c_I_sizeOf l dC dI dA a z x1 st r1 e_r1) (cwV 1 hts (gd_V q_391 ko_I_sizeOf) rfl rfl rfl kh_I_sizeOf ⟨Nat.le_of_ble_eq_true rfl, Nat.le_of_ble_eq_true rfl⟩) 2 2 rfl rfl rfl rfl hl.1 rfl (Nat.le_of_ble_eq_true rfl) kd_I_put_138 ⟨Nat.zero_le _, Nat.zero_le _⟩ (fun H locs hP hD hS => ?_)
  refine W.eq (g2 := F0 m 141 ls [.int r1.1, .int x6, .int x1, .ref (a 2)]) rfl ?_
  refine va_mmax hx hb (by rw [hml]; exact hl.1.symm) hown (hts _ q_377) (hts _ qm_max_s) (hts _ qm_i) (hts _ qm_max_c) (Nat.le_of_ble_eq_true rfl) (Nat.le_of_ble_eq_true rfl) (Nat.zero_le _) (Nat.zero_le _) kd_I_put_141 ?_
  refine W.eq (g2 := F0 m 144 ls (.int (fb_max x6 r1.1) :: [.int x1, .ref (a 2)])) rfl ?_
  obtain ⟨r2, e_r2, hF⟩ := fb_ob hF
  refine fb_callV (As := [.int x1, .int (fb_max x6 r1.1)]) (rest := []) ⟨hx, hb, hml, hown, hts⟩ zX_mv hZ hK hP hD hS hA (c_I_setSize l dC dI dA a z x1 (fb_max x6 r1.1) r1.2 r2 e_r2) (cwV 2 hts (gd_V q_392 ko_I_setSize) rfl rfl rfl kh_I_setSize ⟨Nat.le_of_ble_eq_true rfl, Nat.le_of_ble_eq_true rfl⟩) 2 2 rfl rfl rfl rfl hl.1 rfl (Nat.le_of_ble_eq_true rfl) kd_I_put_144 ⟨Nat.zero_le _, Nat.zero_le _⟩ (fun H locs hP hD hS => ?_)
  refine W.eq (g2 := F0 m 147 ls []) rfl ?_
  refine lv_iload hx hb kd_I_put_147 (lv_at hl 3 rfl) ?_
  refine lv_iload_n hx hb kd_I_put_149 rfl (lv_at hl 2 rfl) ?_
  refine lv_isub hx hb kd_I_put_150 ?_
  exact fb_ri (o := o) hx hb hr hlocks hK hP hD hS hF kd_I_put_151
def b_I_put_buffer_84 (k21 : Int32 → Int32 → Int32 → Int32 → Int32 → fb_S → Option (Int32 × fb_S)) (k84 : Int32 → Int32 → Int32 → Int32 → Int32 → Int32 → Int32 → Int32 → fb_S → Option (Int32 × fb_S)) (x1 : Int32) (x2 : Int32) (x5 : Int32) (x6 : Int32) (x7 : Int32) (x8 : Int32) (x9 : Int32) (x10 : Int32) (st : fb_S) : Option (Int32 × fb_S) := (if x8 ≤ x10 then k21 x1 x2 x5 x8 (x7 + (1 : Int32)) st else (fb_ld (st 5) 3072 (x10 - x2)).bind fun v2 => (f_K_setPart ((x9 + x10) - x6) (255 : Int32) v2 st).bind fun r3 => k84 x1 x2 x5 x6 x7 x8 x9 (x10 + (1 : Int32)) r3.2)
set_option maxHeartbeats 4000000 in
set_option maxRecDepth 100000 in
theorem w_I_put_buffer_84 {p : Program} {l : Launch} {e : Env} {s : State} {m : MethodId} {args : Array Value} {below : List Frame} {meth : Method} {c : Code} {A : Nat → Prop} {dC : Nat → ClassId} {dI : Nat → Nat → Nat} {dA : Nat → ClassId} {a : Nat → Nat} {z : Nat → Nat} (CX : fb_C p s m args meth c kc_I_put (some .int) 11 "FileTree$Inodes" (dC, dI) vcl (tX dA) A (zX z)) (o : Int32 × fb_S) (k21 : Int32 → Int32 → Int32 → Int32 → Int32 → fb_S → Option (Int32 × fb_S)) (hk21 : ∀ (x1 : Int32) (x2 : Int32) (x5 : Int32) (x6 : Int32) (x7 : Int32) (st : fb_S), k21 x1 x2 x5 x6 x7 st = some o → fb_G p l e (headSpec kw_I_put rm_I_put_buffer).room s m args below meth c (dC, dI) vcl (tX dA) (wX dA a) A (some (.int o.1)) o.2 21 11 [(0, .ref (a 2)), (1, .int x1), (2, .int x2), (4, .ref (a 10)), (5, .int x5), (6, .int x6), (7, .int x7)] [] st) (k84 : Int32 → Int32 → Int32 → Int32 → Int32 → Int32 → Int32 → Int32 → fb_S → Option (Int32 × fb_S)) (hk84 : ∀ (x1 : Int32) (x2 : Int32) (x5 : Int32) (x6 : Int32) (x7 : Int32) (x8 : Int32) (x9 : Int32) (x10 : Int32) (st : fb_S), k84 x1 x2 x5 x6 x7 x8 x9 x10 st = some o → fb_G p l e (headSpec kw_I_put rm_I_put_buffer).room s m args below meth c (dC, dI) vcl (tX dA) (wX dA a) A (some (.int o.1)) o.2 84 11 [(0, .ref (a 2)), (1, .int x1), (2, .int x2), (4, .ref (a 10)), (5, .int x5), (6, .int x6), (7, .int x7), (8, .int x8), (9, .int x9), (10, .int x10)] [] st) (x1 : Int32) (x2 : Int32) (x5 : Int32) (x6 : Int32) (x7 : Int32) (x8 : Int32) (x9 : Int32) (x10 : Int32) (st : fb_S) (hF : b_I_put_buffer_84 k21 k84 x1 x2 x5 x6 x7 x8 x9 x10 st = some o) : fb_G p l e (headSpec kw_I_put rm_I_put_buffer).room s m args below meth c (dC, dI) vcl (tX dA) (wX dA a) A (some (.int o.1)) o.2 84 11 [(0, .ref (a 2)), (1, .int x1), (2, .int x2), (4, .ref (a 10)), (5, .int x5), (6, .int x6), (7, .int x7), (8, .int x8), (9, .int x9), (10, .int x10)] [] st := by
  intro H locs hP hD hS ls hl
  obtain ⟨hx, hb, hr, hml, hown, hts, hK, hA, hlocks, hZ⟩ := id CX
  unfold b_I_put_buffer_84 at hF
  refine lv_iload hx hb kd_I_put_84 (lv_at hl 9 rfl) ?_
  refine lv_iload hx hb kd_I_put_86 (lv_at hl 7 rfl) ?_
  refine lv_icmp_ge (tgt := 122) hx hb kd_I_put_88 (by decide) (fun c1 => ?_) (fun c1 => ?_)
  · rw [if_pos c1] at hF
    refine lv_iload hx hb kd_I_put_122 (lv_at hl 7 rfl) ?_
    refine lv_istore (lv' := [(6, .int x8), (0, .ref (a 2)), (1, .int x1), (2, .int x2), (4, .ref (a 10)), (5, .int x5), (7, .int x7), (8, .int x8), (9, .int x9), (10, .int x10)]) hx hb kd_I_put_124 hl (by decide) rfl (fun ls hl => ?_)
    refine lv_iinc (v := x7 + (1 : Int32)) (lv' := [(7, .int (x7 + (1 : Int32))), (6, .int x8), (0, .ref (a 2)), (1, .int x1), (2, .int x2), (4, .ref (a 10)), (5, .int x5), (8, .int x8), (9, .int x9), (10, .int x10)]) hx hb kd_I_put_126 hl (k := 6) rfl rfl (by decide) rfl (fun ls hl => ?_)
    refine lv_goto (tgt := 21) hx hb kd_I_put_129 (by decide) ?_
    exact hk21 x1 x2 x5 x8 (x7 + (1 : Int32)) st hF H locs hP hD hS ls (lv_sub hl [2, 3, 4, 5, 6, 1, 0] rfl)
  · rw [if_neg c1] at hF
    refine lv_aload_n hx hb kd_I_put_91 rfl (lv_at hl 0 rfl) ?_
    refine va_get (D := (dC, dI)) (ci := 2) (v := .ref (a 3)) (C := "FileTree$Inodes") (T := ft_I) (N := 2) hx hb hts fi_I hown hK hP 2 rfl rfl 0 (by decide) (hts _ q_41) (fun _ h9 => h9) rfl kd_I_put_92 ?_
    refine lv_iload hx hb kd_I_put_95 (lv_at hl 8 rfl) ?_
    refine lv_iload hx hb kd_I_put_97 (lv_at hl 9 rfl) ?_
    refine lv_iadd hx hb kd_I_put_99 ?_
    refine lv_iload hx hb kd_I_put_100 (lv_at hl 5 rfl) ?_
    refine lv_isub hx hb kd_I_put_102 ?_
    refine lv_sipush (v := 255) hx hb kd_I_put_103 (by decide) ?_
    refine lv_aload hx hb kd_I_put_106 (lv_at hl 3 rfl) ?_
    refine lv_iload hx hb kd_I_put_108 (lv_at hl 9 rfl) ?_
    refine lv_iload_n hx hb kd_I_put_110 rfl (lv_at hl 2 rfl) ?_
    refine lv_isub hx hb kd_I_put_111 ?_
    obtain ⟨v2, e_v2, hF⟩ := fb_ob hF
    refine fb_bald hx hb hK hP 10 1 rfl rfl e_v2 kd_I_put_112 ?_
    obtain ⟨r3, e_r3, hF⟩ := fb_ob hF
    refine fb_callV (As := [.int ((x9 + x10) - x6), .int (255 : Int32), .int v2]) (rest := []) ⟨hx, hb, hml, hown, hts⟩ zX_mv hZ hK hP hD hS hA (c_K_setPart l dC dI dA a z ((x9 + x10) - x6) (255 : Int32) v2 st r3 e_r3) (cwV 3 hts (gd_V q_118 ko_K_setPart) rfl rfl rfl kh_K_setPart ⟨Nat.le_of_ble_eq_true rfl, Nat.le_of_ble_eq_true rfl⟩) 1 3 rfl rfl rfl rfl hl.1 rfl (Nat.le_of_ble_eq_true rfl) kd_I_put_113 ⟨Nat.zero_le _, Nat.zero_le _⟩ (fun H locs hP hD hS => ?_)
    refine W.eq (g2 := F0 m 116 ls []) rfl ?_
    refine lv_iinc (v := x10 + (1 : Int32)) (lv' := [(10, .int (x10 + (1 : Int32))), (0, .ref (a 2)), (1, .int x1), (2, .int x2), (4, .ref (a 10)), (5, .int x5), (6, .int x6), (7, .int x7), (8, .int x8), (9, .int x9)]) hx hb kd_I_put_116 hl (k := 9) rfl rfl (by decide) rfl (fun ls hl => ?_)
    refine lv_goto (tgt := 84) hx hb kd_I_put_119 (by decide) ?_
    exact hk84 x1 x2 x5 x6 x7 x8 x9 (x10 + (1 : Int32)) r3.2 hF H locs hP hD hS ls (lv_sub hl [1, 2, 3, 4, 5, 6, 7, 8, 9, 0] rfl)
def l_I_put_buffer_84 (k21 : Int32 → Int32 → Int32 → Int32 → Int32 → fb_S → Option (Int32 × fb_S)) : Nat → Int32 → Int32 → Int32 → Int32 → Int32 → Int32 → Int32 → Int32 → fb_S → Option (Int32 × fb_S)
  | 0 => fun _ _ _ _ _ _ _ _ _ => none
  | n + 1 => b_I_put_buffer_84 k21 (l_I_put_buffer_84 k21 n)
theorem v_I_put_buffer_84 {p : Program} {l : Launch} {e : Env} {s : State} {m : MethodId} {args : Array Value} {below : List Frame} {meth : Method} {c : Code} {A : Nat → Prop} {dC : Nat → ClassId} {dI : Nat → Nat → Nat} {dA : Nat → ClassId} {a : Nat → Nat} {z : Nat → Nat} (CX : fb_C p s m args meth c kc_I_put (some .int) 11 "FileTree$Inodes" (dC, dI) vcl (tX dA) A (zX z)) (o : Int32 × fb_S) (k21 : Int32 → Int32 → Int32 → Int32 → Int32 → fb_S → Option (Int32 × fb_S)) (hk21 : ∀ (x1 : Int32) (x2 : Int32) (x5 : Int32) (x6 : Int32) (x7 : Int32) (st : fb_S), k21 x1 x2 x5 x6 x7 st = some o → fb_G p l e (headSpec kw_I_put rm_I_put_buffer).room s m args below meth c (dC, dI) vcl (tX dA) (wX dA a) A (some (.int o.1)) o.2 21 11 [(0, .ref (a 2)), (1, .int x1), (2, .int x2), (4, .ref (a 10)), (5, .int x5), (6, .int x6), (7, .int x7)] [] st) (n : Nat) : ∀ (x1 : Int32) (x2 : Int32) (x5 : Int32) (x6 : Int32) (x7 : Int32) (x8 : Int32) (x9 : Int32) (x10 : Int32) (st : fb_S), l_I_put_buffer_84 k21 n x1 x2 x5 x6 x7 x8 x9 x10 st = some o → fb_G p l e (headSpec kw_I_put rm_I_put_buffer).room s m args below meth c (dC, dI) vcl (tX dA) (wX dA a) A (some (.int o.1)) o.2 84 11 [(0, .ref (a 2)), (1, .int x1), (2, .int x2), (4, .ref (a 10)), (5, .int x5), (6, .int x6), (7, .int x7), (8, .int x8), (9, .int x9), (10, .int x10)] [] st := by
  induction n with
  | zero => intro x1 x2 x5 x6 x7 x8 x9 x10 st hF; cases hF
  | succ n ih => intro x1 x2 x5 x6 x7 x8 x9 x10 st hF; exact w_I_put_buffer_84 CX o k21 hk21 (l_I_put_buffer_84 k21 n) ih x1 x2 x5 x6 x7 x8 x9 x10 st hF
def b_I_put_buffer_56 (k21 : Int32 → Int32 → Int32 → Int32 → Int32 → fb_S → Option (Int32 × fb_S)) (x1 : Int32) (x2 : Int32) (x5 : Int32) (x6 : Int32) (x7 : Int32) (st : fb_S) : Option (Int32 × fb_S) := (f_I_placeOfByte x1 x6 st).bind fun r1 => l_I_put_buffer_84 k21 fb_n x1 x2 x5 x6 x7 (fb_min x5 ((x7 + (1 : Int32)) * (1024 : Int32))) r1.1 x6 r1.2
set_option maxHeartbeats 4000000 in
set_option maxRecDepth 100000 in
theorem w_I_put_buffer_56 {p : Program} {l : Launch} {e : Env} {s : State} {m : MethodId} {args : Array Value} {below : List Frame} {meth : Method} {c : Code} {A : Nat → Prop} {dC : Nat → ClassId} {dI : Nat → Nat → Nat} {dA : Nat → ClassId} {a : Nat → Nat} {z : Nat → Nat} (CX : fb_C p s m args meth c kc_I_put (some .int) 11 "FileTree$Inodes" (dC, dI) vcl (tX dA) A (zX z)) (o : Int32 × fb_S) (k21 : Int32 → Int32 → Int32 → Int32 → Int32 → fb_S → Option (Int32 × fb_S)) (hk21 : ∀ (x1 : Int32) (x2 : Int32) (x5 : Int32) (x6 : Int32) (x7 : Int32) (st : fb_S), k21 x1 x2 x5 x6 x7 st = some o → fb_G p l e (headSpec kw_I_put rm_I_put_buffer).room s m args below meth c (dC, dI) vcl (tX dA) (wX dA a) A (some (.int o.1)) o.2 21 11 [(0, .ref (a 2)), (1, .int x1), (2, .int x2), (4, .ref (a 10)), (5, .int x5), (6, .int x6), (7, .int x7)] [] st) (x1 : Int32) (x2 : Int32) (x5 : Int32) (x6 : Int32) (x7 : Int32) (st : fb_S) (hF : b_I_put_buffer_56 k21 x1 x2 x5 x6 x7 st = some o) : fb_G p l e (headSpec kw_I_put rm_I_put_buffer).room s m args below meth c (dC, dI) vcl (tX dA) (wX dA a) A (some (.int o.1)) o.2 56 11 [(0, .ref (a 2)), (1, .int x1), (2, .int x2), (4, .ref (a 10)), (5, .int x5), (6, .int x6), (7, .int x7)] [] st := by
  intro H locs hP hD hS ls hl
  obtain ⟨hx, hb, hr, hml, hown, hts, hK, hA, hlocks, hZ⟩ := id CX
  unfold b_I_put_buffer_56 at hF
  refine lv_iload hx hb kd_I_put_56 (lv_at hl 4 rfl) ?_
  refine lv_iload hx hb kd_I_put_58 (lv_at hl 6 rfl) ?_
  refine lv_iconst (v := 1) hx hb kd_I_put_60 (by decide) ?_
  refine lv_iadd hx hb kd_I_put_61 ?_
  refine lv_sipush (v := 1024) hx hb kd_I_put_62 (by decide) ?_
  refine lv_imul hx hb kd_I_put_65 ?_
  refine va_mmin hx hb (by rw [hml]; exact hl.1.symm) hown (hts _ q_376) (hts _ qm_min_s) (hts _ qm_i) (hts _ qm_min_c) (Nat.le_of_ble_eq_true rfl) (Nat.le_of_ble_eq_true rfl) (Nat.zero_le _) (Nat.zero_le _) kd_I_put_66 ?_
  refine W.eq (g2 := F0 m 69 ls (.int (fb_min x5 ((x7 + (1 : Int32)) * (1024 : Int32))) :: [])) rfl ?_
  refine lv_istore (lv' := [(8, .int (fb_min x5 ((x7 + (1 : Int32)) * (1024 : Int32)))), (0, .ref (a 2)), (1, .int x1), (2, .int x2), (4, .ref (a 10)), (5, .int x5), (6, .int x6), (7, .int x7)]) hx hb kd_I_put_69 hl (by decide) rfl (fun ls hl => ?_)
  refine lv_aload_n hx hb kd_I_put_71 rfl (lv_at hl 1 rfl) ?_
  refine lv_iload_n hx hb kd_I_put_72 rfl (lv_at hl 2 rfl) ?_
  refine lv_iload hx hb kd_I_put_73 (lv_at hl 6 rfl) ?_
  obtain ⟨r1, e_r1, hF⟩ := fb_ob hF
  refine fb_callV (As := [.int x1, .int x6]) (rest := []) ⟨hx, hb, hml, hown, hts⟩ zX_mv hZ hK hP hD hS hA (c_I_placeOfByte l dC dI dA a z x1 x6 st r1 e_r1) (cwV 2 hts (gd_V q_380 ko_I_placeOfByte) rfl rfl rfl kh_I_placeOfByte ⟨Nat.le_of_ble_eq_true rfl, Nat.le_of_ble_eq_true rfl⟩) 2 2 rfl rfl rfl rfl hl.1 rfl (Nat.le_of_ble_eq_true rfl) kd_I_put_75 ⟨Nat.zero_le _, Nat.zero_le _⟩ (fun H locs hP hD hS => ?_)
  refine W.eq (g2 := F0 m 78 ls [.int r1.1]) rfl ?_
  refine lv_istore (lv' := [(9, .int r1.1), (8, .int (fb_min x5 ((x7 + (1 : Int32)) * (1024 : Int32)))), (0, .ref (a 2)), (1, .int x1), (2, .int x2), (4, .ref (a 10)), (5, .int x5), (6, .int x6), (7, .int x7)]) hx hb kd_I_put_78 hl (by decide) rfl (fun ls hl => ?_)
  refine lv_iload hx hb kd_I_put_80 (lv_at hl 7 rfl) ?_
  refine lv_istore (lv' := [(10, .int x6), (9, .int r1.1), (8, .int (fb_min x5 ((x7 + (1 : Int32)) * (1024 : Int32)))), (0, .ref (a 2)), (1, .int x1), (2, .int x2), (4, .ref (a 10)), (5, .int x5), (6, .int x6), (7, .int x7)]) hx hb kd_I_put_82 hl (by decide) rfl (fun ls hl => ?_)
  exact v_I_put_buffer_84 CX o k21 hk21 fb_n x1 x2 x5 x6 x7 (fb_min x5 ((x7 + (1 : Int32)) * (1024 : Int32))) r1.1 x6 r1.2 hF H locs hP hD hS ls (lv_sub hl [3, 4, 5, 6, 7, 8, 9, 2, 1, 0] rfl)
def b_I_put_buffer_21 (k21 : Int32 → Int32 → Int32 → Int32 → Int32 → fb_S → Option (Int32 × fb_S)) (x1 : Int32) (x2 : Int32) (x5 : Int32) (x6 : Int32) (x7 : Int32) (st : fb_S) : Option (Int32 × fb_S) := (if x5 ≤ (x7 * (1024 : Int32)) then b_I_put_buffer_132 x1 x2 x6 st else (f_I_placeOfByte x1 x6 st).bind fun r2 => (if r2.1 = (-1 : Int32) then (f_I_addBlock x1 x7 r2.2).bind fun r4 => (if r4.1 = (0 : Int32) then b_I_put_buffer_132 x1 x2 x6 r4.2 else b_I_put_buffer_56 k21 x1 x2 x5 x6 x7 r4.2) else b_I_put_buffer_56 k21 x1 x2 x5 x6 x7 r2.2))
set_option maxHeartbeats 4000000 in
set_option maxRecDepth 100000 in
theorem w_I_put_buffer_21 {p : Program} {l : Launch} {e : Env} {s : State} {m : MethodId} {args : Array Value} {below : List Frame} {meth : Method} {c : Code} {A : Nat → Prop} {dC : Nat → ClassId} {dI : Nat → Nat → Nat} {dA : Nat → ClassId} {a : Nat → Nat} {z : Nat → Nat} (CX : fb_C p s m args meth c kc_I_put (some .int) 11 "FileTree$Inodes" (dC, dI) vcl (tX dA) A (zX z)) (o : Int32 × fb_S) (k21 : Int32 → Int32 → Int32 → Int32 → Int32 → fb_S → Option (Int32 × fb_S)) (hk21 : ∀ (x1 : Int32) (x2 : Int32) (x5 : Int32) (x6 : Int32) (x7 : Int32) (st : fb_S), k21 x1 x2 x5 x6 x7 st = some o → fb_G p l e (headSpec kw_I_put rm_I_put_buffer).room s m args below meth c (dC, dI) vcl (tX dA) (wX dA a) A (some (.int o.1)) o.2 21 11 [(0, .ref (a 2)), (1, .int x1), (2, .int x2), (4, .ref (a 10)), (5, .int x5), (6, .int x6), (7, .int x7)] [] st) (x1 : Int32) (x2 : Int32) (x5 : Int32) (x6 : Int32) (x7 : Int32) (st : fb_S) (hF : b_I_put_buffer_21 k21 x1 x2 x5 x6 x7 st = some o) : fb_G p l e (headSpec kw_I_put rm_I_put_buffer).room s m args below meth c (dC, dI) vcl (tX dA) (wX dA a) A (some (.int o.1)) o.2 21 11 [(0, .ref (a 2)), (1, .int x1), (2, .int x2), (4, .ref (a 10)), (5, .int x5), (6, .int x6), (7, .int x7)] [] st := by
  intro H locs hP hD hS ls hl
  obtain ⟨hx, hb, hr, hml, hown, hts, hK, hA, hlocks, hZ⟩ := id CX
  unfold b_I_put_buffer_21 at hF
  refine lv_iload hx hb kd_I_put_21 (lv_at hl 6 rfl) ?_
  refine lv_sipush (v := 1024) hx hb kd_I_put_23 (by decide) ?_
  refine lv_imul hx hb kd_I_put_26 ?_
  refine lv_iload hx hb kd_I_put_27 (lv_at hl 4 rfl) ?_
  refine lv_icmp_ge (tgt := 132) hx hb kd_I_put_29 (by decide) (fun c1 => ?_) (fun c1 => ?_)
  · rw [if_pos c1] at hF
    exact w_I_put_buffer_132 CX o x1 x2 x6 st hF H locs hP hD hS ls (lv_sub hl [0, 1, 2, 5] rfl)
  · rw [if_neg c1] at hF
    refine lv_aload_n hx hb kd_I_put_32 rfl (lv_at hl 0 rfl) ?_
    refine lv_iload_n hx hb kd_I_put_33 rfl (lv_at hl 1 rfl) ?_
    refine lv_iload hx hb kd_I_put_34 (lv_at hl 5 rfl) ?_
    obtain ⟨r2, e_r2, hF⟩ := fb_ob hF
    refine fb_callV (As := [.int x1, .int x6]) (rest := []) ⟨hx, hb, hml, hown, hts⟩ zX_mv hZ hK hP hD hS hA (c_I_placeOfByte l dC dI dA a z x1 x6 st r2 e_r2) (cwV 2 hts (gd_V q_380 ko_I_placeOfByte) rfl rfl rfl kh_I_placeOfByte ⟨Nat.le_of_ble_eq_true rfl, Nat.le_of_ble_eq_true rfl⟩) 2 2 rfl rfl rfl rfl hl.1 rfl (Nat.le_of_ble_eq_true rfl) kd_I_put_36 ⟨Nat.zero_le _, Nat.zero_le _⟩ (fun H locs hP hD hS => ?_)
    refine W.eq (g2 := F0 m 39 ls [.int r2.1]) rfl ?_
    refine lv_iconst (v := (-1)) hx hb kd_I_put_39 (by decide) ?_
    refine lv_icmp_ne (tgt := 56) hx hb kd_I_put_40 (by decide) (fun c3 => ?_) (fun c3 => ?_)
    · rw [if_neg c3] at hF
      exact w_I_put_buffer_56 CX o k21 hk21 x1 x2 x5 x6 x7 r2.2 hF H locs hP hD hS ls (lv_sub hl [0, 1, 2, 3, 4, 5, 6] rfl)
    · rw [if_pos c3] at hF
      refine lv_aload_n hx hb kd_I_put_43 rfl (lv_at hl 0 rfl) ?_
      refine lv_iload_n hx hb kd_I_put_44 rfl (lv_at hl 1 rfl) ?_
      refine lv_iload hx hb kd_I_put_45 (lv_at hl 6 rfl) ?_
      obtain ⟨r4, e_r4, hF⟩ := fb_ob hF
      refine fb_callV (As := [.int x1, .int x7]) (rest := []) ⟨hx, hb, hml, hown, hts⟩ zX_mv hZ hK hP hD hS hA (c_I_addBlock l dC dI dA a z x1 x7 r2.2 r4 e_r4) (cwV 2 hts (gd_V q_390 ko_I_addBlock) rfl rfl rfl kh_I_addBlock ⟨Nat.le_of_ble_eq_true rfl, Nat.le_of_ble_eq_true rfl⟩) 2 2 rfl rfl rfl rfl hl.1 rfl (Nat.le_of_ble_eq_true rfl) kd_I_put_47 ⟨Nat.zero_le _, Nat.zero_le _⟩ (fun H locs hP hD hS => ?_)
      refine W.eq (g2 := F0 m 50 ls [.int r4.1]) rfl ?_
      refine lv_if_ne (tgt := 56) hx hb kd_I_put_50 (by decide) (fun c5 => ?_) (fun c5 => ?_)
      · rw [if_neg c5] at hF
        exact w_I_put_buffer_56 CX o k21 hk21 x1 x2 x5 x6 x7 r4.2 hF H locs hP hD hS ls (lv_sub hl [0, 1, 2, 3, 4, 5, 6] rfl)
      · rw [if_pos c5] at hF
        refine lv_goto (tgt := 132) hx hb kd_I_put_53 (by decide) ?_
        exact w_I_put_buffer_132 CX o x1 x2 x6 r4.2 hF H locs hP hD hS ls (lv_sub hl [0, 1, 2, 5] rfl)
def l_I_put_buffer_21 : Nat → Int32 → Int32 → Int32 → Int32 → Int32 → fb_S → Option (Int32 × fb_S)
  | 0 => fun _ _ _ _ _ _ => none
  | n + 1 => b_I_put_buffer_21 (l_I_put_buffer_21 n)
theorem v_I_put_buffer_21 {p : Program} {l : Launch} {e : Env} {s : State} {m : MethodId} {args : Array Value} {below : List Frame} {meth : Method} {c : Code} {A : Nat → Prop} {dC : Nat → ClassId} {dI : Nat → Nat → Nat} {dA : Nat → ClassId} {a : Nat → Nat} {z : Nat → Nat} (CX : fb_C p s m args meth c kc_I_put (some .int) 11 "FileTree$Inodes" (dC, dI) vcl (tX dA) A (zX z)) (o : Int32 × fb_S) (n : Nat) : ∀ (x1 : Int32) (x2 : Int32) (x5 : Int32) (x6 : Int32) (x7 : Int32) (st : fb_S), l_I_put_buffer_21 n x1 x2 x5 x6 x7 st = some o → fb_G p l e (headSpec kw_I_put rm_I_put_buffer).room s m args below meth c (dC, dI) vcl (tX dA) (wX dA a) A (some (.int o.1)) o.2 21 11 [(0, .ref (a 2)), (1, .int x1), (2, .int x2), (4, .ref (a 10)), (5, .int x5), (6, .int x6), (7, .int x7)] [] st := by
  induction n with
  | zero => intro x1 x2 x5 x6 x7 st hF; cases hF
  | succ n ih => intro x1 x2 x5 x6 x7 st hF; exact w_I_put_buffer_21 CX o (l_I_put_buffer_21 n) ih x1 x2 x5 x6 x7 st hF
def f_I_put_buffer (x1 : Int32) (x2 : Int32) (x3 : Int32) (st : fb_S) : Option (Int32 × fb_S) := l_I_put_buffer_21 fb_n x1 x2 (x2 + (fb_min x3 (3072 : Int32))) x2 (x2 / (1024 : Int32)) st
set_option maxHeartbeats 4000000 in
set_option maxRecDepth 100000 in
theorem w_I_put_buffer_0 {p : Program} {l : Launch} {e : Env} {s : State} {m : MethodId} {args : Array Value} {below : List Frame} {meth : Method} {c : Code} {A : Nat → Prop} {dC : Nat → ClassId} {dI : Nat → Nat → Nat} {dA : Nat → ClassId} {a : Nat → Nat} {z : Nat → Nat} (CX : fb_C p s m args meth c kc_I_put (some .int) 11 "FileTree$Inodes" (dC, dI) vcl (tX dA) A (zX z)) (o : Int32 × fb_S) (x1 : Int32) (x2 : Int32) (x3 : Int32) (st : fb_S) (hF : f_I_put_buffer x1 x2 x3 st = some o) : fb_G p l e (headSpec kw_I_put rm_I_put_buffer).room s m args below meth c (dC, dI) vcl (tX dA) (wX dA a) A (some (.int o.1)) o.2 0 11 [(0, .ref (a 2)), (1, .int x1), (2, .int x2), (3, .int x3), (4, .ref (a 10))] [] st := by
  intro H locs hP hD hS ls hl
  obtain ⟨hx, hb, hr, hml, hown, hts, hK, hA, hlocks, hZ⟩ := id CX
  unfold f_I_put_buffer at hF
  refine lv_iload_n hx hb kd_I_put_0 rfl (lv_at hl 2 rfl) ?_
  refine lv_iload_n hx hb kd_I_put_1 rfl (lv_at hl 3 rfl) ?_
  refine lv_aload hx hb kd_I_put_2 (lv_at hl 4 rfl) ?_
  refine va_alen (v := 3072) hx hb hK hP 10 1 rfl rfl rfl kd_I_put_4 ?_
  refine va_mmin hx hb (by rw [hml]; exact hl.1.symm) hown (hts _ q_376) (hts _ qm_min_s) (hts _ qm_i) (hts _ qm_min_c) (Nat.le_of_ble_eq_true rfl) (Nat.le_of_ble_eq_true rfl) (Nat.zero_le _) (Nat.zero_le _) kd_I_put_5 ?_
  refine W.eq (g2 := F0 m 8 ls (.int (fb_min x3 (3072 : Int32)) :: [.int x2])) rfl ?_
  refine lv_iadd hx hb kd_I_put_8 ?_
  refine lv_istore (lv' := [(5, .int (x2 + (fb_min x3 (3072 : Int32)))), (0, .ref (a 2)), (1, .int x1), (2, .int x2), (3, .int x3), (4, .ref (a 10))]) hx hb kd_I_put_9 hl (by decide) rfl (fun ls hl => ?_)
  refine lv_iload_n hx hb kd_I_put_11 rfl (lv_at hl 3 rfl) ?_
  refine lv_istore (lv' := [(6, .int x2), (5, .int (x2 + (fb_min x3 (3072 : Int32)))), (0, .ref (a 2)), (1, .int x1), (2, .int x2), (3, .int x3), (4, .ref (a 10))]) hx hb kd_I_put_12 hl (by decide) rfl (fun ls hl => ?_)
  refine lv_iload_n hx hb kd_I_put_14 rfl (lv_at hl 4 rfl) ?_
  refine lv_sipush (v := 1024) hx hb kd_I_put_15 (by decide) ?_
  refine lv_idiv hx hb kd_I_put_18 (by decide) ?_
  refine lv_istore (lv' := [(7, .int (x2 / (1024 : Int32))), (6, .int x2), (5, .int (x2 + (fb_min x3 (3072 : Int32)))), (0, .ref (a 2)), (1, .int x1), (2, .int x2), (3, .int x3), (4, .ref (a 10))]) hx hb kd_I_put_19 hl (by decide) rfl (fun ls hl => ?_)
  exact v_I_put_buffer_21 CX o fb_n x1 x2 (x2 + (fb_min x3 (3072 : Int32))) x2 (x2 / (1024 : Int32)) st hF H locs hP hD hS ls (lv_sub hl [3, 4, 5, 7, 2, 1, 0] rfl)
theorem c_I_put_buffer (l : Launch) (dC : Nat → ClassId) (dI : Nat → Nat → Nat) (dA : Nat → ClassId) (a : Nat → Nat) (z : Nat → Nat) (x1 : Int32) (x2 : Int32) (x3 : Int32) (st : fb_S) (o : Int32 × fb_S) (h : f_I_put_buffer x1 x2 x3 st = some o) : fb_M l ky_I_put kw_I_put rm_I_put_buffer (dC, dI) vcl (tX dA) (wX dA a) (zX z) [.ref (a 2), .int x1, .int x2, .int x3, .ref (a 10)] (some (.int o.1)) st o.2 := fb_enter (by decide) rfl (Nat.le_of_ble_eq_true rfl) (fun p e s m below meth c A CX hP hD hS ls hl => w_I_put_buffer_0 CX o x1 x2 x3 st h s.heap [] hP hD hS ls hl)
abbrev rm_T_save : Room := { frames := 5, cells := 0, slots := 0, locals := 124 }
def f_T_save (x1 : Int32) (x2 : Int32) (x3 : Int32) (st : fb_S) : Option (Int32 × fb_S) := (f_I_kindOf x1 st).bind fun r1 => (if r1.1 = (2 : Int32) then (if x3 < (0 : Int32) then some ((-1 : Int32), r1.2) else (if x3 ≤ (3072 : Int32) then (if x2 < (0 : Int32) then some ((-1 : Int32), r1.2) else (f_I_sizeOf x1 r1.2).bind fun r6 => (if r6.1 < x2 then some ((-1 : Int32), r6.2) else (if (x2 + x3) ≤ (274432 : Int32) then (f_I_put_buffer x1 x2 x3 r6.2).bind fun r9 => some (r9.1, r9.2) else some ((-1 : Int32), r6.2)))) else some ((-1 : Int32), r1.2))) else some ((-1 : Int32), r1.2))
set_option maxHeartbeats 4000000 in
set_option maxRecDepth 100000 in
theorem w_T_save_0 {p : Program} {l : Launch} {e : Env} {s : State} {m : MethodId} {args : Array Value} {below : List Frame} {meth : Method} {c : Code} {A : Nat → Prop} {dC : Nat → ClassId} {dI : Nat → Nat → Nat} {dA : Nat → ClassId} {a : Nat → Nat} {z : Nat → Nat} (CX : fb_C p s m args meth c kc_T_save (some .int) 4 "FileTree" (dC, dI) vcl (tX dA) A (zX z)) (o : Int32 × fb_S) (x1 : Int32) (x2 : Int32) (x3 : Int32) (st : fb_S) (hF : f_T_save x1 x2 x3 st = some o) : fb_G p l e (headSpec kw_T_save rm_T_save).room s m args below meth c (dC, dI) vcl (tX dA) (wX dA a) A (some (.int o.1)) o.2 0 4 [(0, .ref (a 0)), (1, .int x1), (2, .int x2), (3, .int x3)] [] st := by
  intro H locs hP hD hS ls hl
  obtain ⟨hx, hb, hr, hml, hown, hts, hK, hA, hlocks, hZ⟩ := id CX
  unfold f_T_save at hF
  refine lv_aload_n hx hb kd_T_save_0 rfl (lv_at hl 0 rfl) ?_
  refine va_get (D := (dC, dI)) (ci := 4) (v := .ref (a 2)) (C := "FileTree") (T := ft_T) (N := 5) hx hb hts fi_T hown hK hP 0 rfl rfl 1 (by decide) (hts _ q_208) (fun _ h9 => h9) rfl kd_T_save_1 ?_
  refine lv_iload_n hx hb kd_T_save_4 rfl (lv_at hl 1 rfl) ?_
  obtain ⟨r1, e_r1, hF⟩ := fb_ob hF
  refine fb_callV (As := [.int x1]) (rest := []) ⟨hx, hb, hml, hown, hts⟩ zX_mv hZ hK hP hD hS hA (c_I_kindOf l dC dI dA a z x1 st r1 e_r1) (cwV 1 hts (gd_V q_287 ko_I_kindOf) rfl rfl rfl kh_I_kindOf ⟨Nat.le_of_ble_eq_true rfl, Nat.le_of_ble_eq_true rfl⟩) 2 2 rfl rfl rfl rfl hl.1 rfl (Nat.le_of_ble_eq_true rfl) kd_T_save_5 ⟨Nat.zero_le _, Nat.zero_le _⟩ (fun H locs hP hD hS => ?_)
  refine W.eq (g2 := F0 m 8 ls [.int r1.1]) rfl ?_
  refine lv_iconst (v := 2) hx hb kd_T_save_8 (by decide) ?_
  refine lv_icmp_ne (tgt := 23) hx hb kd_T_save_9 (by decide) (fun c2 => ?_) (fun c2 => ?_)
  · rw [if_neg c2] at hF
    refine lv_iconst (v := (-1)) hx hb kd_T_save_23 (by decide) ?_
    exact fb_ri (o := o) hx hb hr hlocks hK hP hD hS hF kd_T_save_24
  · rw [if_pos c2] at hF
    refine lv_iload_n hx hb kd_T_save_12 rfl (lv_at hl 3 rfl) ?_
    refine lv_if_lt (tgt := 23) hx hb kd_T_save_13 (by decide) (fun c3 => ?_) (fun c3 => ?_)
    · rw [if_pos c3] at hF
      refine lv_iconst (v := (-1)) hx hb kd_T_save_23 (by decide) ?_
      exact fb_ri (o := o) hx hb hr hlocks hK hP hD hS hF kd_T_save_24
    · rw [if_neg c3] at hF
      refine lv_iload_n hx hb kd_T_save_16 rfl (lv_at hl 3 rfl) ?_
      refine lv_sipush (v := 3072) hx hb kd_T_save_17 (by decide) ?_
      refine lv_icmp_le (tgt := 25) hx hb kd_T_save_20 (by decide) (fun c4 => ?_) (fun c4 => ?_)
      · rw [if_pos c4] at hF
        refine lv_iload_n hx hb kd_T_save_25 rfl (lv_at hl 2 rfl) ?_
        refine lv_if_lt (tgt := 49) hx hb kd_T_save_26 (by decide) (fun c5 => ?_) (fun c5 => ?_)
        · rw [if_pos c5] at hF
          refine lv_iconst (v := (-1)) hx hb kd_T_save_49 (by decide) ?_
          exact fb_ri (o := o) hx hb hr hlocks hK hP hD hS hF kd_T_save_50
        · rw [if_neg c5] at hF
          refine lv_iload_n hx hb kd_T_save_29 rfl (lv_at hl 2 rfl) ?_
          refine lv_aload_n hx hb kd_T_save_30 rfl (lv_at hl 0 rfl) ?_
          refine va_get (D := (dC, dI)) (ci := 4) (v := .ref (a 2)) (C := "FileTree") (T := ft_T) (N := 5) hx hb hts fi_T hown hK hP 0 rfl rfl 1 (by decide) (hts _ q_208) (fun _ h9 => h9) rfl kd_T_save_31 ?_
          refine lv_iload_n hx hb kd_T_save_34 rfl (lv_at hl 1 rfl) ?_
          obtain ⟨r6, e_r6, hF⟩ := fb_ob hF
          refine fb_callV (As := [.int x1]) (rest := [.int x2]) ⟨hx, hb, hml, hown, hts⟩ zX_mv hZ hK hP hD hS hA (c_I_sizeOf l dC dI dA a z x1 r1.2 r6 e_r6) (cwV 1 hts (gd_V q_368 ko_I_sizeOf) rfl rfl rfl kh_I_sizeOf ⟨Nat.le_of_ble_eq_true rfl, Nat.le_of_ble_eq_true rfl⟩) 2 2 rfl rfl rfl rfl hl.1 rfl (Nat.le_of_ble_eq_true rfl) kd_T_save_35 ⟨Nat.zero_le _, Nat.zero_le _⟩ (fun H locs hP hD hS => ?_)
          refine W.eq (g2 := F0 m 38 ls [.int r6.1, .int x2]) rfl ?_
          refine lv_icmp_gt (tgt := 49) hx hb kd_T_save_38 (by decide) (fun c7 => ?_) (fun c7 => ?_)
          · rw [if_pos c7] at hF
            refine lv_iconst (v := (-1)) hx hb kd_T_save_49 (by decide) ?_
            exact fb_ri (o := o) hx hb hr hlocks hK hP hD hS hF kd_T_save_50
          · rw [if_neg c7] at hF
            refine lv_iload_n hx hb kd_T_save_41 rfl (lv_at hl 2 rfl) ?_
            refine lv_iload_n hx hb kd_T_save_42 rfl (lv_at hl 3 rfl) ?_
            refine lv_iadd hx hb kd_T_save_43 ?_
            refine lv_ldc (v := 274432) hx hb hown (hts _ q_385) kd_T_save_44 ?_
            refine lv_icmp_le (tgt := 51) hx hb kd_T_save_46 (by decide) (fun c8 => ?_) (fun c8 => ?_)
            · rw [if_pos c8] at hF
              refine lv_aload_n hx hb kd_T_save_51 rfl (lv_at hl 0 rfl) ?_
              refine va_get (D := (dC, dI)) (ci := 4) (v := .ref (a 2)) (C := "FileTree") (T := ft_T) (N := 5) hx hb hts fi_T hown hK hP 0 rfl rfl 1 (by decide) (hts _ q_208) (fun _ h9 => h9) rfl kd_T_save_52 ?_
              refine lv_iload_n hx hb kd_T_save_55 rfl (lv_at hl 1 rfl) ?_
              refine lv_iload_n hx hb kd_T_save_56 rfl (lv_at hl 2 rfl) ?_
              refine lv_iload_n hx hb kd_T_save_57 rfl (lv_at hl 3 rfl) ?_
              refine lv_aload_n hx hb kd_T_save_58 rfl (lv_at hl 0 rfl) ?_
              refine va_get (D := (dC, dI)) (ci := 4) (v := .ref (a 10)) (C := "FileTree") (T := ft_T) (N := 5) hx hb hts fi_T hown hK hP 0 rfl rfl 4 (by decide) (hts _ q_211) (fun _ h9 => h9) rfl kd_T_save_59 ?_
              obtain ⟨r9, e_r9, hF⟩ := fb_ob hF
              refine fb_callV (As := [.int x1, .int x2, .int x3, .ref (a 10)]) (rest := []) ⟨hx, hb, hml, hown, hts⟩ zX_mv hZ hK hP hD hS hA (c_I_put_buffer l dC dI dA a z x1 x2 x3 r6.2 r9 e_r9) (cwV 4 hts (gd_V q_386 ko_I_put) rfl rfl rfl kh_I_put ⟨Nat.le_of_ble_eq_true rfl, Nat.le_of_ble_eq_true rfl⟩) 2 2 rfl rfl rfl rfl hl.1 rfl (Nat.le_of_ble_eq_true rfl) kd_T_save_62 ⟨Nat.zero_le _, Nat.zero_le _⟩ (fun H locs hP hD hS => ?_)
              refine W.eq (g2 := F0 m 65 ls [.int r9.1]) rfl ?_
              exact fb_ri (o := o) hx hb hr hlocks hK hP hD hS hF kd_T_save_65
            · rw [if_neg c8] at hF
              refine lv_iconst (v := (-1)) hx hb kd_T_save_49 (by decide) ?_
              exact fb_ri (o := o) hx hb hr hlocks hK hP hD hS hF kd_T_save_50
      · rw [if_neg c4] at hF
        refine lv_iconst (v := (-1)) hx hb kd_T_save_23 (by decide) ?_
        exact fb_ri (o := o) hx hb hr hlocks hK hP hD hS hF kd_T_save_24
theorem c_T_save (l : Launch) (dC : Nat → ClassId) (dI : Nat → Nat → Nat) (dA : Nat → ClassId) (a : Nat → Nat) (z : Nat → Nat) (x1 : Int32) (x2 : Int32) (x3 : Int32) (st : fb_S) (o : Int32 × fb_S) (h : f_T_save x1 x2 x3 st = some o) : fb_M l ky_T_save kw_T_save rm_T_save (dC, dI) vcl (tX dA) (wX dA a) (zX z) [.ref (a 0), .int x1, .int x2, .int x3] (some (.int o.1)) st o.2 := fb_enter (by decide) rfl (Nat.le_of_ble_eq_true rfl) (fun p e s m below meth c A CX hP hD hS ls hl => w_T_save_0 CX o x1 x2 x3 st h s.heap [] hP hD hS ls hl)
abbrev rm_T_clear : Room := { frames := 4, cells := 0, slots := 0, locals := 93 }
def f_T_clear (x1 : Int32) (st : fb_S) : Option (Int32 × fb_S) := (f_I_kindOf x1 st).bind fun r1 => (if r1.1 = (2 : Int32) then (f_I_dropBlocks x1 r1.2).bind fun r3 => (f_I_setSize x1 (0 : Int32) r3.2).bind fun r4 => fb_rz (1 : Int32) r4.2 else fb_rz (0 : Int32) r1.2)
set_option maxHeartbeats 4000000 in
set_option maxRecDepth 100000 in
theorem w_T_clear_0 {p : Program} {l : Launch} {e : Env} {s : State} {m : MethodId} {args : Array Value} {below : List Frame} {meth : Method} {c : Code} {A : Nat → Prop} {dC : Nat → ClassId} {dI : Nat → Nat → Nat} {dA : Nat → ClassId} {a : Nat → Nat} {z : Nat → Nat} (CX : fb_C p s m args meth c kc_T_clear (some .boolean) 2 "FileTree" (dC, dI) vcl (tX dA) A (zX z)) (o : Int32 × fb_S) (x1 : Int32) (st : fb_S) (hF : f_T_clear x1 st = some o) : fb_G p l e (headSpec kw_T_clear rm_T_clear).room s m args below meth c (dC, dI) vcl (tX dA) (wX dA a) A (some (.int o.1)) o.2 0 2 [(0, .ref (a 0)), (1, .int x1)] [] st := by
  intro H locs hP hD hS ls hl
  obtain ⟨hx, hb, hr, hml, hown, hts, hK, hA, hlocks, hZ⟩ := id CX
  unfold f_T_clear at hF
  refine lv_aload_n hx hb kd_T_clear_0 rfl (lv_at hl 0 rfl) ?_
  refine va_get (D := (dC, dI)) (ci := 4) (v := .ref (a 2)) (C := "FileTree") (T := ft_T) (N := 5) hx hb hts fi_T hown hK hP 0 rfl rfl 1 (by decide) (hts _ q_208) (fun _ h9 => h9) rfl kd_T_clear_1 ?_
  refine lv_iload_n hx hb kd_T_clear_4 rfl (lv_at hl 1 rfl) ?_
  obtain ⟨r1, e_r1, hF⟩ := fb_ob hF
  refine fb_callV (As := [.int x1]) (rest := []) ⟨hx, hb, hml, hown, hts⟩ zX_mv hZ hK hP hD hS hA (c_I_kindOf l dC dI dA a z x1 st r1 e_r1) (cwV 1 hts (gd_V q_287 ko_I_kindOf) rfl rfl rfl kh_I_kindOf ⟨Nat.le_of_ble_eq_true rfl, Nat.le_of_ble_eq_true rfl⟩) 2 2 rfl rfl rfl rfl hl.1 rfl (Nat.le_of_ble_eq_true rfl) kd_T_clear_5 ⟨Nat.zero_le _, Nat.zero_le _⟩ (fun H locs hP hD hS => ?_)
  refine W.eq (g2 := F0 m 8 ls [.int r1.1]) rfl ?_
  refine lv_iconst (v := 2) hx hb kd_T_clear_8 (by decide) ?_
  refine lv_icmp_eq (tgt := 14) hx hb kd_T_clear_9 (by decide) (fun c2 => ?_) (fun c2 => ?_)
  · rw [if_pos c2] at hF
    refine lv_aload_n hx hb kd_T_clear_14 rfl (lv_at hl 0 rfl) ?_
    refine va_get (D := (dC, dI)) (ci := 4) (v := .ref (a 2)) (C := "FileTree") (T := ft_T) (N := 5) hx hb hts fi_T hown hK hP 0 rfl rfl 1 (by decide) (hts _ q_208) (fun _ h9 => h9) rfl kd_T_clear_15 ?_
    refine lv_iload_n hx hb kd_T_clear_18 rfl (lv_at hl 1 rfl) ?_
    obtain ⟨r3, e_r3, hF⟩ := fb_ob hF
    refine fb_callV (As := [.int x1]) (rest := []) ⟨hx, hb, hml, hown, hts⟩ zX_mv hZ hK hP hD hS hA (c_I_dropBlocks l dC dI dA a z x1 r1.2 r3 e_r3) (cwV 1 hts (gd_V q_397 ko_I_dropBlocks) rfl rfl rfl kh_I_dropBlocks ⟨Nat.le_of_ble_eq_true rfl, Nat.le_of_ble_eq_true rfl⟩) 2 2 rfl rfl rfl rfl hl.1 rfl (Nat.le_of_ble_eq_true rfl) kd_T_clear_19 ⟨Nat.zero_le _, Nat.zero_le _⟩ (fun H locs hP hD hS => ?_)
    refine W.eq (g2 := F0 m 22 ls []) rfl ?_
    refine lv_aload_n hx hb kd_T_clear_22 rfl (lv_at hl 0 rfl) ?_
    refine va_get (D := (dC, dI)) (ci := 4) (v := .ref (a 2)) (C := "FileTree") (T := ft_T) (N := 5) hx hb hts fi_T hown hK hP 0 rfl rfl 1 (by decide) (hts _ q_208) (fun _ h9 => h9) rfl kd_T_clear_23 ?_
    refine lv_iload_n hx hb kd_T_clear_26 rfl (lv_at hl 1 rfl) ?_
    refine lv_iconst (v := 0) hx hb kd_T_clear_27 (by decide) ?_
    obtain ⟨r4, e_r4, hF⟩ := fb_ob hF
    refine fb_callV (As := [.int x1, .int (0 : Int32)]) (rest := []) ⟨hx, hb, hml, hown, hts⟩ zX_mv hZ hK hP hD hS hA (c_I_setSize l dC dI dA a z x1 (0 : Int32) r3.2 r4 e_r4) (cwV 2 hts (gd_V q_398 ko_I_setSize) rfl rfl rfl kh_I_setSize ⟨Nat.le_of_ble_eq_true rfl, Nat.le_of_ble_eq_true rfl⟩) 2 2 rfl rfl rfl rfl hl.1 rfl (Nat.le_of_ble_eq_true rfl) kd_T_clear_28 ⟨Nat.zero_le _, Nat.zero_le _⟩ (fun H locs hP hD hS => ?_)
    refine W.eq (g2 := F0 m 31 ls []) rfl ?_
    refine lv_iconst (v := 1) hx hb kd_T_clear_31 (by decide) ?_
    exact fb_rb (o := o) hx hb hr hlocks hK hP hD hS hF kd_T_clear_32
  · rw [if_neg c2] at hF
    refine lv_iconst (v := 0) hx hb kd_T_clear_12 (by decide) ?_
    exact fb_rb (o := o) hx hb hr hlocks hK hP hD hS hF kd_T_clear_13
theorem c_T_clear (l : Launch) (dC : Nat → ClassId) (dI : Nat → Nat → Nat) (dA : Nat → ClassId) (a : Nat → Nat) (z : Nat → Nat) (x1 : Int32) (st : fb_S) (o : Int32 × fb_S) (h : f_T_clear x1 st = some o) : fb_M l ky_T_clear kw_T_clear rm_T_clear (dC, dI) vcl (tX dA) (wX dA a) (zX z) [.ref (a 0), .int x1] (some (.int o.1)) st o.2 := fb_enter (by decide) rfl (Nat.le_of_ble_eq_true rfl) (fun p e s m below meth c A CX hP hD hS ls hl => w_T_clear_0 CX o x1 st h s.heap [] hP hD hS ls hl)
abbrev rm_I_majorOf : Room := { frames := 1, cells := 0, slots := 0, locals := 24 }
def f_I_majorOf (x1 : Int32) (st : fb_S) : Option (Int32 × fb_S) := (f_I_isInode x1 st).bind fun r1 => (if r1.1 = (0 : Int32) then some ((0 : Int32), r1.2) else (f_I_placeOf x1 r1.2).bind fun r3 => (f_K_partAt (r3.1 + (2 : Int32)) (65535 : Int32) r3.2).bind fun r4 => some (r4.1, r4.2))
set_option maxHeartbeats 4000000 in
set_option maxRecDepth 100000 in
theorem w_I_majorOf_0 {p : Program} {l : Launch} {e : Env} {s : State} {m : MethodId} {args : Array Value} {below : List Frame} {meth : Method} {c : Code} {A : Nat → Prop} {dC : Nat → ClassId} {dI : Nat → Nat → Nat} {dA : Nat → ClassId} {a : Nat → Nat} {z : Nat → Nat} (CX : fb_C p s m args meth c kc_I_majorOf (some .int) 2 "FileTree$Inodes" (dC, dI) vcl (tX dA) A (zX z)) (o : Int32 × fb_S) (x1 : Int32) (st : fb_S) (hF : f_I_majorOf x1 st = some o) : fb_G p l e (headSpec kw_I_majorOf rm_I_majorOf).room s m args below meth c (dC, dI) vcl (tX dA) (wX dA a) A (some (.int o.1)) o.2 0 2 [(0, .ref (a 2)), (1, .int x1)] [] st := by
  intro H locs hP hD hS ls hl
  obtain ⟨hx, hb, hr, hml, hown, hts, hK, hA, hlocks, hZ⟩ := id CX
  unfold f_I_majorOf at hF
  refine lv_aload_n hx hb kd_I_majorOf_0 rfl (lv_at hl 0 rfl) ?_
  refine lv_iload_n hx hb kd_I_majorOf_1 rfl (lv_at hl 1 rfl) ?_
  obtain ⟨r1, e_r1, hF⟩ := fb_ob hF
  refine fb_callV (As := [.int x1]) (rest := []) ⟨hx, hb, hml, hown, hts⟩ zX_mv hZ hK hP hD hS hA (c_I_isInode l dC dI dA a z x1 st r1 e_r1) (cwV 1 hts (gd_V q_108 ko_I_isInode) rfl rfl rfl kh_I_isInode ⟨Nat.le_of_ble_eq_true rfl, Nat.le_of_ble_eq_true rfl⟩) 2 2 rfl rfl rfl rfl hl.1 rfl (Nat.le_of_ble_eq_true rfl) kd_I_majorOf_2 ⟨Nat.zero_le _, Nat.zero_le _⟩ (fun H locs hP hD hS => ?_)
  refine W.eq (g2 := F0 m 5 ls [.int r1.1]) rfl ?_
  refine lv_if_eq (tgt := 27) hx hb kd_I_majorOf_5 (by decide) (fun c2 => ?_) (fun c2 => ?_)
  · rw [if_pos c2] at hF
    refine lv_iconst (v := 0) hx hb kd_I_majorOf_27 (by decide) ?_
    exact fb_ri (o := o) hx hb hr hlocks hK hP hD hS hF kd_I_majorOf_28
  · rw [if_neg c2] at hF
    refine lv_aload_n hx hb kd_I_majorOf_8 rfl (lv_at hl 0 rfl) ?_
    refine va_get (D := (dC, dI)) (ci := 2) (v := .ref (a 3)) (C := "FileTree$Inodes") (T := ft_I) (N := 2) hx hb hts fi_I hown hK hP 2 rfl rfl 0 (by decide) (hts _ q_41) (fun _ h9 => h9) rfl kd_I_majorOf_9 ?_
    refine lv_aload_n hx hb kd_I_majorOf_12 rfl (lv_at hl 0 rfl) ?_
    refine lv_iload_n hx hb kd_I_majorOf_13 rfl (lv_at hl 1 rfl) ?_
    obtain ⟨r3, e_r3, hF⟩ := fb_ob hF
    refine fb_callV (As := [.int x1]) (rest := [.ref (a 3)]) ⟨hx, hb, hml, hown, hts⟩ zX_mv hZ hK hP hD hS hA (c_I_placeOf l dC dI dA a z x1 r1.2 r3 e_r3) (cwV 1 hts (gd_V q_112 ko_I_placeOf) rfl rfl rfl kh_I_placeOf ⟨Nat.le_of_ble_eq_true rfl, Nat.le_of_ble_eq_true rfl⟩) 2 2 rfl rfl rfl rfl hl.1 rfl (Nat.le_of_ble_eq_true rfl) kd_I_majorOf_14 ⟨Nat.zero_le _, Nat.zero_le _⟩ (fun H locs hP hD hS => ?_)
    refine W.eq (g2 := F0 m 17 ls [.int r3.1, .ref (a 3)]) rfl ?_
    refine lv_iconst (v := 2) hx hb kd_I_majorOf_17 (by decide) ?_
    refine lv_iadd hx hb kd_I_majorOf_18 ?_
    refine lv_ldc (v := 65535) hx hb hown (hts _ q_117) kd_I_majorOf_19 ?_
    obtain ⟨r4, e_r4, hF⟩ := fb_ob hF
    refine fb_callV (As := [.int (r3.1 + (2 : Int32)), .int (65535 : Int32)]) (rest := []) ⟨hx, hb, hml, hown, hts⟩ zX_mv hZ hK hP hD hS hA (c_K_partAt l dC dI dA a z (r3.1 + (2 : Int32)) (65535 : Int32) r3.2 r4 e_r4) (cwV 2 hts (gd_V q_141 ko_K_partAt) rfl rfl rfl kh_K_partAt ⟨Nat.le_of_ble_eq_true rfl, Nat.le_of_ble_eq_true rfl⟩) 1 3 rfl rfl rfl rfl hl.1 rfl (Nat.le_of_ble_eq_true rfl) kd_I_majorOf_21 ⟨Nat.zero_le _, Nat.zero_le _⟩ (fun H locs hP hD hS => ?_)
    refine W.eq (g2 := F0 m 24 ls [.int r4.1]) rfl ?_
    refine lv_goto (tgt := 28) hx hb kd_I_majorOf_24 (by decide) ?_
    exact fb_ri (o := o) hx hb hr hlocks hK hP hD hS hF kd_I_majorOf_28
theorem c_I_majorOf (l : Launch) (dC : Nat → ClassId) (dI : Nat → Nat → Nat) (dA : Nat → ClassId) (a : Nat → Nat) (z : Nat → Nat) (x1 : Int32) (st : fb_S) (o : Int32 × fb_S) (h : f_I_majorOf x1 st = some o) : fb_M l ky_I_majorOf kw_I_majorOf rm_I_majorOf (dC, dI) vcl (tX dA) (wX dA a) (zX z) [.ref (a 2), .int x1] (some (.int o.1)) st o.2 := fb_enter (by decide) rfl (Nat.le_of_ble_eq_true rfl) (fun p e s m below meth c A CX hP hD hS ls hl => w_I_majorOf_0 CX o x1 st h s.heap [] hP hD hS ls hl)
abbrev rm_I_minorOf : Room := { frames := 1, cells := 0, slots := 0, locals := 24 }
def f_I_minorOf (x1 : Int32) (st : fb_S) : Option (Int32 × fb_S) := (f_I_isInode x1 st).bind fun r1 => (if r1.1 = (0 : Int32) then some ((0 : Int32), r1.2) else (f_I_placeOf x1 r1.2).bind fun r3 => (f_K_partAt (r3.1 + (4 : Int32)) (65535 : Int32) r3.2).bind fun r4 => some (r4.1, r4.2))
set_option maxHeartbeats 4000000 in
set_option maxRecDepth 100000 in
theorem w_I_minorOf_0 {p : Program} {l : Launch} {e : Env} {s : State} {m : MethodId} {args : Array Value} {below : List Frame} {meth : Method} {c : Code} {A : Nat → Prop} {dC : Nat → ClassId} {dI : Nat → Nat → Nat} {dA : Nat → ClassId} {a : Nat → Nat} {z : Nat → Nat} (CX : fb_C p s m args meth c kc_I_minorOf (some .int) 2 "FileTree$Inodes" (dC, dI) vcl (tX dA) A (zX z)) (o : Int32 × fb_S) (x1 : Int32) (st : fb_S) (hF : f_I_minorOf x1 st = some o) : fb_G p l e (headSpec kw_I_minorOf rm_I_minorOf).room s m args below meth c (dC, dI) vcl (tX dA) (wX dA a) A (some (.int o.1)) o.2 0 2 [(0, .ref (a 2)), (1, .int x1)] [] st := by
  intro H locs hP hD hS ls hl
  obtain ⟨hx, hb, hr, hml, hown, hts, hK, hA, hlocks, hZ⟩ := id CX
  unfold f_I_minorOf at hF
  refine lv_aload_n hx hb kd_I_minorOf_0 rfl (lv_at hl 0 rfl) ?_
  refine lv_iload_n hx hb kd_I_minorOf_1 rfl (lv_at hl 1 rfl) ?_
  obtain ⟨r1, e_r1, hF⟩ := fb_ob hF
  refine fb_callV (As := [.int x1]) (rest := []) ⟨hx, hb, hml, hown, hts⟩ zX_mv hZ hK hP hD hS hA (c_I_isInode l dC dI dA a z x1 st r1 e_r1) (cwV 1 hts (gd_V q_108 ko_I_isInode) rfl rfl rfl kh_I_isInode ⟨Nat.le_of_ble_eq_true rfl, Nat.le_of_ble_eq_true rfl⟩) 2 2 rfl rfl rfl rfl hl.1 rfl (Nat.le_of_ble_eq_true rfl) kd_I_minorOf_2 ⟨Nat.zero_le _, Nat.zero_le _⟩ (fun H locs hP hD hS => ?_)
  refine W.eq (g2 := F0 m 5 ls [.int r1.1]) rfl ?_
  refine lv_if_eq (tgt := 27) hx hb kd_I_minorOf_5 (by decide) (fun c2 => ?_) (fun c2 => ?_)
  · rw [if_pos c2] at hF
    refine lv_iconst (v := 0) hx hb kd_I_minorOf_27 (by decide) ?_
    exact fb_ri (o := o) hx hb hr hlocks hK hP hD hS hF kd_I_minorOf_28
  · rw [if_neg c2] at hF
    refine lv_aload_n hx hb kd_I_minorOf_8 rfl (lv_at hl 0 rfl) ?_
    refine va_get (D := (dC, dI)) (ci := 2) (v := .ref (a 3)) (C := "FileTree$Inodes") (T := ft_I) (N := 2) hx hb hts fi_I hown hK hP 2 rfl rfl 0 (by decide) (hts _ q_41) (fun _ h9 => h9) rfl kd_I_minorOf_9 ?_
    refine lv_aload_n hx hb kd_I_minorOf_12 rfl (lv_at hl 0 rfl) ?_
    refine lv_iload_n hx hb kd_I_minorOf_13 rfl (lv_at hl 1 rfl) ?_
    obtain ⟨r3, e_r3, hF⟩ := fb_ob hF
    refine fb_callV (As := [.int x1]) (rest := [.ref (a 3)]) ⟨hx, hb, hml, hown, hts⟩ zX_mv hZ hK hP hD hS hA (c_I_placeOf l dC dI dA a z x1 r1.2 r3 e_r3) (cwV 1 hts (gd_V q_112 ko_I_placeOf) rfl rfl rfl kh_I_placeOf ⟨Nat.le_of_ble_eq_true rfl, Nat.le_of_ble_eq_true rfl⟩) 2 2 rfl rfl rfl rfl hl.1 rfl (Nat.le_of_ble_eq_true rfl) kd_I_minorOf_14 ⟨Nat.zero_le _, Nat.zero_le _⟩ (fun H locs hP hD hS => ?_)
    refine W.eq (g2 := F0 m 17 ls [.int r3.1, .ref (a 3)]) rfl ?_
    refine lv_iconst (v := 4) hx hb kd_I_minorOf_17 (by decide) ?_
    refine lv_iadd hx hb kd_I_minorOf_18 ?_
    refine lv_ldc (v := 65535) hx hb hown (hts _ q_117) kd_I_minorOf_19 ?_
    obtain ⟨r4, e_r4, hF⟩ := fb_ob hF
    refine fb_callV (As := [.int (r3.1 + (4 : Int32)), .int (65535 : Int32)]) (rest := []) ⟨hx, hb, hml, hown, hts⟩ zX_mv hZ hK hP hD hS hA (c_K_partAt l dC dI dA a z (r3.1 + (4 : Int32)) (65535 : Int32) r3.2 r4 e_r4) (cwV 2 hts (gd_V q_141 ko_K_partAt) rfl rfl rfl kh_K_partAt ⟨Nat.le_of_ble_eq_true rfl, Nat.le_of_ble_eq_true rfl⟩) 1 3 rfl rfl rfl rfl hl.1 rfl (Nat.le_of_ble_eq_true rfl) kd_I_minorOf_21 ⟨Nat.zero_le _, Nat.zero_le _⟩ (fun H locs hP hD hS => ?_)
    refine W.eq (g2 := F0 m 24 ls [.int r4.1]) rfl ?_
    refine lv_goto (tgt := 28) hx hb kd_I_minorOf_24 (by decide) ?_
    exact fb_ri (o := o) hx hb hr hlocks hK hP hD hS hF kd_I_minorOf_28
theorem c_I_minorOf (l : Launch) (dC : Nat → ClassId) (dI : Nat → Nat → Nat) (dA : Nat → ClassId) (a : Nat → Nat) (z : Nat → Nat) (x1 : Int32) (st : fb_S) (o : Int32 × fb_S) (h : f_I_minorOf x1 st = some o) : fb_M l ky_I_minorOf kw_I_minorOf rm_I_minorOf (dC, dI) vcl (tX dA) (wX dA a) (zX z) [.ref (a 2), .int x1] (some (.int o.1)) st o.2 := fb_enter (by decide) rfl (Nat.le_of_ble_eq_true rfl) (fun p e s m below meth c A CX hP hD hS ls hl => w_I_minorOf_0 CX o x1 st h s.heap [] hP hD hS ls hl)
abbrev rm_T_about : Room := { frames := 2, cells := 0, slots := 0, locals := 45 }
def f_T_about (x1 : Int32) (x2 : Int32) (st : fb_S) : Option (Int32 × fb_S) := (f_I_isInode x1 st).bind fun r1 => (if r1.1 = (0 : Int32) then some ((-1 : Int32), r1.2) else (if x2 = (0 : Int32) then (f_I_kindOf x1 r1.2).bind fun r4 => some (r4.1, r4.2) else if x2 = (1 : Int32) then (f_I_majorOf x1 r1.2).bind fun r5 => some (r5.1, r5.2) else if x2 = (2 : Int32) then (f_I_minorOf x1 r1.2).bind fun r6 => some (r6.1, r6.2) else if x2 = (3 : Int32) then (f_I_linksOf x1 r1.2).bind fun r7 => some (r7.1, r7.2) else if x2 = (4 : Int32) then (f_I_sizeOf x1 r1.2).bind fun r8 => some (r8.1, r8.2) else if x2 = (5 : Int32) then (f_I_heldOf x1 r1.2).bind fun r9 => some (r9.1, r9.2) else some ((-1 : Int32), r1.2)))
set_option maxHeartbeats 4000000 in
set_option maxRecDepth 100000 in
theorem w_T_about_0 {p : Program} {l : Launch} {e : Env} {s : State} {m : MethodId} {args : Array Value} {below : List Frame} {meth : Method} {c : Code} {A : Nat → Prop} {dC : Nat → ClassId} {dI : Nat → Nat → Nat} {dA : Nat → ClassId} {a : Nat → Nat} {z : Nat → Nat} (CX : fb_C p s m args meth c kc_T_about (some .int) 3 "FileTree" (dC, dI) vcl (tX dA) A (zX z)) (o : Int32 × fb_S) (x1 : Int32) (x2 : Int32) (st : fb_S) (hF : f_T_about x1 x2 st = some o) : fb_G p l e (headSpec kw_T_about rm_T_about).room s m args below meth c (dC, dI) vcl (tX dA) (wX dA a) A (some (.int o.1)) o.2 0 3 [(0, .ref (a 0)), (1, .int x1), (2, .int x2)] [] st := by
  intro H locs hP hD hS ls hl
  obtain ⟨hx, hb, hr, hml, hown, hts, hK, hA, hlocks, hZ⟩ := id CX
  unfold f_T_about at hF
  refine lv_aload_n hx hb kd_T_about_0 rfl (lv_at hl 0 rfl) ?_
  refine va_get (D := (dC, dI)) (ci := 4) (v := .ref (a 2)) (C := "FileTree") (T := ft_T) (N := 5) hx hb hts fi_T hown hK hP 0 rfl rfl 1 (by decide) (hts _ q_208) (fun _ h9 => h9) rfl kd_T_about_1 ?_
  refine lv_iload_n hx hb kd_T_about_4 rfl (lv_at hl 1 rfl) ?_
  obtain ⟨r1, e_r1, hF⟩ := fb_ob hF
  refine fb_callV (As := [.int x1]) (rest := []) ⟨hx, hb, hml, hown, hts⟩ zX_mv hZ hK hP hD hS hA (c_I_isInode l dC dI dA a z x1 st r1 e_r1) (cwV 1 hts (gd_V q_403 ko_I_isInode) rfl rfl rfl kh_I_isInode ⟨Nat.le_of_ble_eq_true rfl, Nat.le_of_ble_eq_true rfl⟩) 2 2 rfl rfl rfl rfl hl.1 rfl (Nat.le_of_ble_eq_true rfl) kd_T_about_5 ⟨Nat.zero_le _, Nat.zero_le _⟩ (fun H locs hP hD hS => ?_)
  refine W.eq (g2 := F0 m 8 ls [.int r1.1]) rfl ?_
  refine lv_if_ne (tgt := 13) hx hb kd_T_about_8 (by decide) (fun c2 => ?_) (fun c2 => ?_)
  · rw [if_neg c2] at hF
    refine lv_iload_n hx hb kd_T_about_13 rfl (lv_at hl 2 rfl) ?_
    by_cases c3_0 : x2 = 0
    · rw [if_pos c3_0] at hF
      refine lv_tableIn (tgt := 52) hx hb kd_T_about_14 (by rw [c3_0]; decide) (by rw [c3_0]; decide) (by rw [c3_0]; rfl) (by decide) ?_
      refine lv_aload_n hx hb kd_T_about_52 rfl (lv_at hl 0 rfl) ?_
      refine va_get (D := (dC, dI)) (ci := 4) (v := .ref (a 2)) (C := "FileTree") (T := ft_T) (N := 5) hx hb hts fi_T hown hK hP 0 rfl rfl 1 (by decide) (hts _ q_208) (fun _ h9 => h9) rfl kd_T_about_53 ?_
      refine lv_iload_n hx hb kd_T_about_56 rfl (lv_at hl 1 rfl) ?_
      obtain ⟨r4, e_r4, hF⟩ := fb_ob hF
      refine fb_callV (As := [.int x1]) (rest := []) ⟨hx, hb, hml, hown, hts⟩ zX_mv hZ hK hP hD hS hA (c_I_kindOf l dC dI dA a z x1 r1.2 r4 e_r4) (cwV 1 hts (gd_V q_287 ko_I_kindOf) rfl rfl rfl kh_I_kindOf ⟨Nat.le_of_ble_eq_true rfl, Nat.le_of_ble_eq_true rfl⟩) 2 2 rfl rfl rfl rfl hl.1 rfl (Nat.le_of_ble_eq_true rfl) kd_T_about_57 ⟨Nat.zero_le _, Nat.zero_le _⟩ (fun H locs hP hD hS => ?_)
      refine W.eq (g2 := F0 m 60 ls [.int r4.1]) rfl ?_
      exact fb_ri (o := o) hx hb hr hlocks hK hP hD hS hF kd_T_about_60
    · rw [if_neg c3_0] at hF
      by_cases c3_1 : x2 = 1
      · rw [if_pos c3_1] at hF
        refine lv_tableIn (tgt := 61) hx hb kd_T_about_14 (by rw [c3_1]; decide) (by rw [c3_1]; decide) (by rw [c3_1]; rfl) (by decide) ?_
        refine lv_aload_n hx hb kd_T_about_61 rfl (lv_at hl 0 rfl) ?_
        refine va_get (D := (dC, dI)) (ci := 4) (v := .ref (a 2)) (C := "FileTree") (T := ft_T) (N := 5) hx hb hts fi_T hown hK hP 0 rfl rfl 1 (by decide) (hts _ q_208) (fun _ h9 => h9) rfl kd_T_about_62 ?_
        refine lv_iload_n hx hb kd_T_about_65 rfl (lv_at hl 1 rfl) ?_
        obtain ⟨r5, e_r5, hF⟩ := fb_ob hF
        refine fb_callV (As := [.int x1]) (rest := []) ⟨hx, hb, hml, hown, hts⟩ zX_mv hZ hK hP hD hS hA (c_I_majorOf l dC dI dA a z x1 r1.2 r5 e_r5) (cwV 1 hts (gd_V q_404 ko_I_majorOf) rfl rfl rfl kh_I_majorOf ⟨Nat.le_of_ble_eq_true rfl, Nat.le_of_ble_eq_true rfl⟩) 2 2 rfl rfl rfl rfl hl.1 rfl (Nat.le_of_ble_eq_true rfl) kd_T_about_66 ⟨Nat.zero_le _, Nat.zero_le _⟩ (fun H locs hP hD hS => ?_)
        refine W.eq (g2 := F0 m 69 ls [.int r5.1]) rfl ?_
        exact fb_ri (o := o) hx hb hr hlocks hK hP hD hS hF kd_T_about_69
      · rw [if_neg c3_1] at hF
        by_cases c3_2 : x2 = 2
        · rw [if_pos c3_2] at hF
          refine lv_tableIn (tgt := 70) hx hb kd_T_about_14 (by rw [c3_2]; decide) (by rw [c3_2]; decide) (by rw [c3_2]; rfl) (by decide) ?_
          refine lv_aload_n hx hb kd_T_about_70 rfl (lv_at hl 0 rfl) ?_
          refine va_get (D := (dC, dI)) (ci := 4) (v := .ref (a 2)) (C := "FileTree") (T := ft_T) (N := 5) hx hb hts fi_T hown hK hP 0 rfl rfl 1 (by decide) (hts _ q_208) (fun _ h9 => h9) rfl kd_T_about_71 ?_
          refine lv_iload_n hx hb kd_T_about_74 rfl (lv_at hl 1 rfl) ?_
          obtain ⟨r6, e_r6, hF⟩ := fb_ob hF
          refine fb_callV (As := [.int x1]) (rest := []) ⟨hx, hb, hml, hown, hts⟩ zX_mv hZ hK hP hD hS hA (c_I_minorOf l dC dI dA a z x1 r1.2 r6 e_r6) (cwV 1 hts (gd_V q_408 ko_I_minorOf) rfl rfl rfl kh_I_minorOf ⟨Nat.le_of_ble_eq_true rfl, Nat.le_of_ble_eq_true rfl⟩) 2 2 rfl rfl rfl rfl hl.1 rfl (Nat.le_of_ble_eq_true rfl) kd_T_about_75 ⟨Nat.zero_le _, Nat.zero_le _⟩ (fun H locs hP hD hS => ?_)
          refine W.eq (g2 := F0 m 78 ls [.int r6.1]) rfl ?_
          exact fb_ri (o := o) hx hb hr hlocks hK hP hD hS hF kd_T_about_78
        · rw [if_neg c3_2] at hF
          by_cases c3_3 : x2 = 3
          · rw [if_pos c3_3] at hF
            refine lv_tableIn (tgt := 79) hx hb kd_T_about_14 (by rw [c3_3]; decide) (by rw [c3_3]; decide) (by rw [c3_3]; rfl) (by decide) ?_
            refine lv_aload_n hx hb kd_T_about_79 rfl (lv_at hl 0 rfl) ?_
            refine va_get (D := (dC, dI)) (ci := 4) (v := .ref (a 2)) (C := "FileTree") (T := ft_T) (N := 5) hx hb hts fi_T hown hK hP 0 rfl rfl 1 (by decide) (hts _ q_208) (fun _ h9 => h9) rfl kd_T_about_80 ?_
            refine lv_iload_n hx hb kd_T_about_83 rfl (lv_at hl 1 rfl) ?_
            obtain ⟨r7, e_r7, hF⟩ := fb_ob hF
            refine fb_callV (As := [.int x1]) (rest := []) ⟨hx, hb, hml, hown, hts⟩ zX_mv hZ hK hP hD hS hA (c_I_linksOf l dC dI dA a z x1 r1.2 r7 e_r7) (cwV 1 hts (gd_V q_310 ko_I_linksOf) rfl rfl rfl kh_I_linksOf ⟨Nat.le_of_ble_eq_true rfl, Nat.le_of_ble_eq_true rfl⟩) 2 2 rfl rfl rfl rfl hl.1 rfl (Nat.le_of_ble_eq_true rfl) kd_T_about_84 ⟨Nat.zero_le _, Nat.zero_le _⟩ (fun H locs hP hD hS => ?_)
            refine W.eq (g2 := F0 m 87 ls [.int r7.1]) rfl ?_
            exact fb_ri (o := o) hx hb hr hlocks hK hP hD hS hF kd_T_about_87
          · rw [if_neg c3_3] at hF
            by_cases c3_4 : x2 = 4
            · rw [if_pos c3_4] at hF
              refine lv_tableIn (tgt := 88) hx hb kd_T_about_14 (by rw [c3_4]; decide) (by rw [c3_4]; decide) (by rw [c3_4]; rfl) (by decide) ?_
              refine lv_aload_n hx hb kd_T_about_88 rfl (lv_at hl 0 rfl) ?_
              refine va_get (D := (dC, dI)) (ci := 4) (v := .ref (a 2)) (C := "FileTree") (T := ft_T) (N := 5) hx hb hts fi_T hown hK hP 0 rfl rfl 1 (by decide) (hts _ q_208) (fun _ h9 => h9) rfl kd_T_about_89 ?_
              refine lv_iload_n hx hb kd_T_about_92 rfl (lv_at hl 1 rfl) ?_
              obtain ⟨r8, e_r8, hF⟩ := fb_ob hF
              refine fb_callV (As := [.int x1]) (rest := []) ⟨hx, hb, hml, hown, hts⟩ zX_mv hZ hK hP hD hS hA (c_I_sizeOf l dC dI dA a z x1 r1.2 r8 e_r8) (cwV 1 hts (gd_V q_368 ko_I_sizeOf) rfl rfl rfl kh_I_sizeOf ⟨Nat.le_of_ble_eq_true rfl, Nat.le_of_ble_eq_true rfl⟩) 2 2 rfl rfl rfl rfl hl.1 rfl (Nat.le_of_ble_eq_true rfl) kd_T_about_93 ⟨Nat.zero_le _, Nat.zero_le _⟩ (fun H locs hP hD hS => ?_)
              refine W.eq (g2 := F0 m 96 ls [.int r8.1]) rfl ?_
              exact fb_ri (o := o) hx hb hr hlocks hK hP hD hS hF kd_T_about_96
            · rw [if_neg c3_4] at hF
              by_cases c3_5 : x2 = 5
              · rw [if_pos c3_5] at hF
                refine lv_tableIn (tgt := 97) hx hb kd_T_about_14 (by rw [c3_5]; decide) (by rw [c3_5]; decide) (by rw [c3_5]; rfl) (by decide) ?_
                refine lv_aload_n hx hb kd_T_about_97 rfl (lv_at hl 0 rfl) ?_
                refine va_get (D := (dC, dI)) (ci := 4) (v := .ref (a 2)) (C := "FileTree") (T := ft_T) (N := 5) hx hb hts fi_T hown hK hP 0 rfl rfl 1 (by decide) (hts _ q_208) (fun _ h9 => h9) rfl kd_T_about_98 ?_
                refine lv_iload_n hx hb kd_T_about_101 rfl (lv_at hl 1 rfl) ?_
                obtain ⟨r9, e_r9, hF⟩ := fb_ob hF
                refine fb_callV (As := [.int x1]) (rest := []) ⟨hx, hb, hml, hown, hts⟩ zX_mv hZ hK hP hD hS hA (c_I_heldOf l dC dI dA a z x1 r1.2 r9 e_r9) (cwV 1 hts (gd_V q_363 ko_I_heldOf) rfl rfl rfl kh_I_heldOf ⟨Nat.le_of_ble_eq_true rfl, Nat.le_of_ble_eq_true rfl⟩) 2 2 rfl rfl rfl rfl hl.1 rfl (Nat.le_of_ble_eq_true rfl) kd_T_about_102 ⟨Nat.zero_le _, Nat.zero_le _⟩ (fun H locs hP hD hS => ?_)
                refine W.eq (g2 := F0 m 105 ls [.int r9.1]) rfl ?_
                exact fb_ri (o := o) hx hb hr hlocks hK hP hD hS hF kd_T_about_105
              · rw [if_neg c3_5] at hF
                have n3_0 := lv_neT c3_0 (k := 0) (a := 0) (by decide)
                have n3_1 := lv_neT c3_1 (k := 1) (a := 1) (by decide)
                have n3_2 := lv_neT c3_2 (k := 2) (a := 2) (by decide)
                have n3_3 := lv_neT c3_3 (k := 3) (a := 3) (by decide)
                have n3_4 := lv_neT c3_4 (k := 4) (a := 4) (by decide)
                have n3_5 := lv_neT c3_5 (k := 5) (a := 5) (by decide)
                refine lv_tableOut (tgt := 106) hx hb kd_T_about_14 (by omega) (by decide) ?_
                refine lv_iconst (v := (-1)) hx hb kd_T_about_106 (by decide) ?_
                exact fb_ri (o := o) hx hb hr hlocks hK hP hD hS hF kd_T_about_107
  · rw [if_pos c2] at hF
    refine lv_iconst (v := (-1)) hx hb kd_T_about_11 (by decide) ?_
    exact fb_ri (o := o) hx hb hr hlocks hK hP hD hS hF kd_T_about_12
theorem c_T_about (l : Launch) (dC : Nat → ClassId) (dI : Nat → Nat → Nat) (dA : Nat → ClassId) (a : Nat → Nat) (z : Nat → Nat) (x1 : Int32) (x2 : Int32) (st : fb_S) (o : Int32 × fb_S) (h : f_T_about x1 x2 st = some o) : fb_M l ky_T_about kw_T_about rm_T_about (dC, dI) vcl (tX dA) (wX dA a) (zX z) [.ref (a 0), .int x1, .int x2] (some (.int o.1)) st o.2 := fb_enter (by decide) rfl (Nat.le_of_ble_eq_true rfl) (fun p e s m below meth c A CX hP hD hS ls hl => w_T_about_0 CX o x1 x2 st h s.heap [] hP hD hS ls hl)
